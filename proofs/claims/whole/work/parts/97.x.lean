/-! personIs -/
theorem least_bit {u : Int32} {k : Int} (k0 : 0 ≤ k) (k1 : k < 32) (h : gb u k = true) : ∃ j, 0 ≤ j ∧ j ≤ k ∧ gb u j = true ∧ ∀ i : Int, 0 ≤ i → i < j → gb u i = false := by
  obtain ⟨j, j1, j2, j3⟩ := lstN (P := fun j => gb u (j : Int) = true) k.toNat (by rw [toNat_c k0]; exact h)
  refine ⟨(j : Int), by omega, by omega, j2, fun i i0 i1 => ?_⟩
  cases q : gb u i with
  | false => rfl
  | true => exact absurd (by rw [toNat_c i0]; exact q) (j3 i.toNat (by omega))
theorem sure_both {σ τ : Sg} {d d2 : Nat} {x : Int} (x0 : 0 ≤ x) (x1 : x < 24) {u : Int32} (eu : σ.1 76 x.toNat = u) (hu : ∀ y, 6 ≤ y → y < 32 → gb u y = false) : ∃ v, f_Houses_sureName (d + 2) (zI x) σ = rI v σ ∧ (if u = 0 then rI (-3) τ else cI (f_M_bits (d2 + 2) u τ) fun v4 σ3 => if 1 < v4 then rI (-2) σ3 else cI (f_M_lowest (d2 + 2) u σ3) fun v6 σ5 => rI v6 σ5) = rI v τ := by
  rw [f_Houses_sureName_eq]
  simp only [bnd_zI x0 (show x < (24 : Nat) by omega) (show x < 2147483648 by omega), ix_zI x0 (show x < 2147483648 by omega), eu]
  by_cases z : u = 0
  · rw [if_pos z, if_pos z]; exact ⟨_, rfl, rfl⟩
  rw [if_neg z, if_neg z, bitCount_sp (fun k k0 k1 => hu k (by omega) k1), cI_rI, eu, bits_sp, cI_rI]
  have ex : ∃ k, 0 ≤ k ∧ k < 6 ∧ gb u k = true := by
    rcases Classical.em (∃ k, 0 ≤ k ∧ k < 6 ∧ gb u k = true) with q | q
    · exact q
    · exfalso
      refine z (zI_0 ▸ gb_ext fun k k0 k1 => ?_)
      rw [gb_0]
      cases w : gb u k with
      | false => rfl
      | true =>
        by_cases k6 : k < 6
        · exact absurd ⟨k, k0, k6, w⟩ q
        · rw [hu k (by omega) k1] at w; cases w
  obtain ⟨k, k0, k6, hk⟩ := ex
  have c1 : 1 ≤ cnt (gb u) 24 := by
    have := cnt_lt (p := fun _ => false) (q := gb u) (k := 24) (fun _ _ _ q => by cases q) k0 (by omega) hk rfl
    have := (cnt_nn (fun _ => false) 24).1
    omega
  have c2 := (cnt_nn (gb u) 24).2
  obtain ⟨j, j0, j1, j2, j3⟩ := least_bit k0 (by omega) hk
  rw [show (1 : Int32) = zI 1 from zI_lit 1, lowestOf_sp j2 ⟨j0, by omega⟩ j3, lowestM_sp j2 ⟨j0, by omega⟩ j3, cI_rI, cI_rI]
  by_cases w : cnt (gb u) 24 = 1
  · rw [if_pos (congrArg zI w), if_neg (by rw [zI_le (by decide) (by omega)]; omega)]
    exact ⟨_, rfl, rfl⟩
  · rw [if_neg (by rw [zI_eq (by omega) (by decide)]; exact w), if_pos (by rw [zI_le (by decide) (by omega)]; omega)]
    exact ⟨_, rfl, rfl⟩
theorem c_personIs {σ : Sg} {r p l : Nat} (h : Inv r p l σ) (a w : Int32) : Same (f_N_personIs 100 a w) (f_M_personIs 100 a w) σ := by
  obtain ⟨a, rfl, ha⟩ := zI_ex a
  obtain ⟨w, rfl, hw⟩ := zI_ex w
  obtain ⟨n1, n2, n3, n4⟩ := h.n
  have q3 : σ.2.2 4 3 = p := h.1.2.2.2.2.2.1
  have hP := h.1.2.1
  have hro := h.2.2.2.1
  obtain ⟨m0, m24, ok⟩ := id hro.1
  have iN := has_sp (σ := σ) hP.s0 rfl ⟨m0, m24⟩ (d := 98) ha
  have iM := isPersonM_sp (σ := σ) (n := rd σ p 0) hro.2.1 ⟨m0, m24⟩ (d := 97) ha
  have kw : ∀ v : Int, 0 ≤ v → v < 100 → (zI w = zI v) = (w = v) := fun v v0 v1 => zI_eq hw (by omega)
  by_cases qa : ¬ (0 ≤ a ∧ a < rd σ p 0)
  · refine ⟨-1, σ, σ, r, p, l, ?_, ?_, h⟩
    · rw [f_N_personIs_eq, q3, gdK_of hP.s0, iN, cI_rI, decide_eq_false qa, bz_ff, if_pos (by decide)]
    · rw [f_M_personIs_eq, iM, cI_rI, decide_eq_false qa, bz_ff, if_pos (by decide)]
  obtain ⟨a0, a1⟩ := Classical.not_not.mp qa
  have sN : ∀ R, (if w = 0 then rI (σ.1 (p + 1) a.toNat) σ else if w = 1 then cI (f_N_orNothing 99 (σ.1 (p + 2) a.toNat) σ) (fun v8 σ7 => rI v8 σ7) else if w = 2 then cI (f_N_orNothing 99 (σ.1 (p + 3) a.toNat) σ) (fun v8 σ7 => rI v8 σ7) else if w = 3 then cI (f_N_orNothing 99 (σ.1 (p + 4) a.toNat) σ) (fun v8 σ7 => rI v8 σ7) else if w = 4 then cI (f_N_orNothing 99 (σ.1 (p + 5) a.toNat) σ) (fun v8 σ7 => rI v8 σ7) else if w = 5 then rI (σ.1 (p + 6) a.toNat) σ else if w = 6 then rI (σ.1 (p + 7) a.toNat) σ else if w = 7 then rI (σ.1 76 a.toNat) σ else if w = 8 then cI (f_Houses_sureName 99 (zI a) σ) (fun v26 σ25 => rI v26 σ25) else rI (-1) σ) = R → f_N_personIs 100 (zI a) (zI w) σ = R := fun R hR => by
    rw [← hR, f_N_personIs_eq, q3, gdK_of hP.s0, iN, cI_rI, decide_eq_true ⟨a0, a1⟩, bz_tt, if_neg (by decide)]
    simp only [q3, gfS_of hP.s0, ofs_4_1, ofs_4_2, ofs_4_3, ofs_4_4, ofs_4_5, ofs_4_6, ofs_4_7, ldi_of hP.s1 a0 (show a < (24 : Nat) by omega) (show a < 2147483648 by omega), ldi_of hP.s2 a0 (show a < (24 : Nat) by omega) (show a < 2147483648 by omega), ldi_of hP.s3 a0 (show a < (24 : Nat) by omega) (show a < 2147483648 by omega), ldi_of hP.s4 a0 (show a < (24 : Nat) by omega) (show a < 2147483648 by omega), ldi_of hP.s5 a0 (show a < (24 : Nat) by omega) (show a < 2147483648 by omega), ldi_of hP.s6 a0 (show a < (24 : Nat) by omega) (show a < 2147483648 by omega), ldi_of hP.s7 a0 (show a < (24 : Nat) by omega) (show a < 2147483648 by omega), bnd_zI a0 (show a < (24 : Nat) by omega) (show a < 2147483648 by omega), ix_zI a0 (show a < 2147483648 by omega), zI_0, show (1 : Int32) = zI 1 from zI_lit 1, show (2 : Int32) = zI 2 from zI_lit 2, show (3 : Int32) = zI 3 from zI_lit 3, show (4 : Int32) = zI 4 from zI_lit 4, show (5 : Int32) = zI 5 from zI_lit 5, show (6 : Int32) = zI 6 from zI_lit 6, show (7 : Int32) = zI 7 from zI_lit 7, show (8 : Int32) = zI 8 from zI_lit 8, kw 0 (by decide) (by decide), kw 1 (by decide) (by decide), kw 2 (by decide) (by decide), kw 3 (by decide) (by decide), kw 4 (by decide) (by decide), kw 5 (by decide) (by decide), kw 6 (by decide) (by decide), kw 7 (by decide) (by decide), kw 8 (by decide) (by decide)]
  have sM : ∀ R, (if w = 0 then rI (σ.1 142 a.toNat) σ else if w = 1 then cI (f_M_orNone 99 (σ.1 143 a.toNat) σ) (fun v8 σ7 => rI v8 σ7) else if w = 2 then cI (f_M_orNone 99 (σ.1 144 a.toNat) σ) (fun v8 σ7 => rI v8 σ7) else if w = 3 then cI (f_M_orNone 99 (σ.1 145 a.toNat) σ) (fun v8 σ7 => rI v8 σ7) else if w = 4 then cI (f_M_orNone 99 (σ.1 146 a.toNat) σ) (fun v8 σ7 => rI v8 σ7) else if w = 5 then cI (f_M_childrenOf 99 (zI a) σ) (fun v8 σ7 => rI v8 σ7) else if w = 6 then cI (f_M_siblingsOf 99 (zI a) σ) (fun v8 σ7 => rI v8 σ7) else if w = 7 then cI (f_M_mayBe 99 (zI a) σ) (fun v8 σ7 => rI v8 σ7) else if w = 8 then cI (f_M_sureOf 99 (zI a) σ) (fun v26 σ25 => rI v26 σ25) else rI (-1) σ) = R → f_M_personIs 100 (zI a) (zI w) σ = R := fun R hR => by
    rw [← hR, f_M_personIs_eq, iM, cI_rI, decide_eq_true ⟨a0, a1⟩, bz_tt, if_neg (by decide)]
    simp only [bnd_zI a0 (show a < (24 : Nat) by omega) (show a < 2147483648 by omega), ix_zI a0 (show a < 2147483648 by omega), zI_0, show (1 : Int32) = zI 1 from zI_lit 1, show (2 : Int32) = zI 2 from zI_lit 2, show (3 : Int32) = zI 3 from zI_lit 3, show (4 : Int32) = zI 4 from zI_lit 4, show (5 : Int32) = zI 5 from zI_lit 5, show (6 : Int32) = zI 6 from zI_lit 6, show (7 : Int32) = zI 7 from zI_lit 7, show (8 : Int32) = zI 8 from zI_lit 8, kw 0 (by decide) (by decide), kw 1 (by decide) (by decide), kw 2 (by decide) (by decide), kw 3 (by decide) (by decide), kw 4 (by decide) (by decide), kw 5 (by decide) (by decide), kw 6 (by decide) (by decide), kw 7 (by decide) (by decide), kw 8 (by decide) (by decide)]
  obtain ⟨S01, ⟨t0, t1, t2⟩, ⟨f0, f1, f2⟩, ⟨g0, g1, g2⟩, d0, d1, d2⟩ := hro.1.bd n3.2 a0 a1
  obtain ⟨-, -, cc⟩ := hro.c hP
  obtain ⟨e1, e2, e3, e4, e5⟩ := cc a a0
  obtain ⟨u1, u2, u3, u4, u5⟩ := hro.m.2 a a0 a1
  have two : ∀ {v : Int} {X Y : Int32}, X = zI v → Y = zI v → -1 ≤ v → v < 100 → cI (f_N_orNothing 99 X σ) (fun v8 σ7 => rI v8 σ7) = rI (zI (if v = -1 then -2 else v)) σ ∧ cI (f_M_orNone 99 Y σ) (fun v8 σ7 => rI v8 σ7) = rI (zI (if v = -1 then -2 else v)) σ := fun {v X Y} hX hY v0 v1 => by
    rw [hX, hY, orNothing_sp (d := 98) ⟨v0, by omega⟩, orNone_sp (d := 98) ⟨v0, by omega⟩]; exact ⟨rfl, rfl⟩
  by_cases z0 : w = 0
  · exact ⟨_, σ, σ, r, p, l, sN _ (by rw [if_pos z0, e1]), sM _ (by rw [if_pos z0, u1]), h⟩
  by_cases z1 : w = 1
  · obtain ⟨x1, x2⟩ := two e2 u2 (by omega) (by omega)
    exact ⟨_, σ, σ, r, p, l, sN _ (by rw [if_neg z0, if_pos z1, x1]), sM _ (by rw [if_neg z0, if_pos z1, x2]), h⟩
  by_cases z2 : w = 2
  · obtain ⟨x1, x2⟩ := two e3 u3 (by omega) (by omega)
    exact ⟨_, σ, σ, r, p, l, sN _ (by rw [if_neg z0, if_neg z1, if_pos z2, x1]), sM _ (by rw [if_neg z0, if_neg z1, if_pos z2, x2]), h⟩
  by_cases z3 : w = 3
  · obtain ⟨x1, x2⟩ := two e4 u4 (by omega) (by omega)
    exact ⟨_, σ, σ, r, p, l, sN _ (by rw [if_neg z0, if_neg z1, if_neg z2, if_pos z3, x1]), sM _ (by rw [if_neg z0, if_neg z1, if_neg z2, if_pos z3, x2]), h⟩
  by_cases z4 : w = 4
  · obtain ⟨x1, x2⟩ := two e5 u5 (by omega) (by omega)
    exact ⟨_, σ, σ, r, p, l, sN _ (by rw [if_neg z0, if_neg z1, if_neg z2, if_neg z3, if_pos z4, x1]), sM _ (by rw [if_neg z0, if_neg z1, if_neg z2, if_neg z3, if_pos z4, x2]), h⟩
  by_cases z5 : w = 5
  · exact ⟨_, σ, σ, r, p, l, sN _ (by rw [if_neg z0, if_neg z1, if_neg z2, if_neg z3, if_neg z4, if_pos z5]), sM _ (by rw [if_neg z0, if_neg z1, if_neg z2, if_neg z3, if_neg z4, if_pos z5, childrenOf_sp hro n3.2 (d := 98) a0 a1, cI_rI]), h⟩
  by_cases z6 : w = 6
  · exact ⟨_, σ, σ, r, p, l, sN _ (by rw [if_neg z0, if_neg z1, if_neg z2, if_neg z3, if_neg z4, if_neg z5, if_pos z6]), sM _ (by rw [if_neg z0, if_neg z1, if_neg z2, if_neg z3, if_neg z4, if_neg z5, if_pos z6, siblingsOf_sp hro n3.2 (d := 98) a0 a1, cI_rI]), h⟩
  by_cases z7 : w = 7
  · obtain ⟨τ, x1, x2⟩ := mayBe_at h (d := 91) a0 a1
    exact ⟨_, σ, τ, r, p, l, sN _ (by rw [if_neg z0, if_neg z1, if_neg z2, if_neg z3, if_neg z4, if_neg z5, if_neg z6, if_pos z7]), sM _ (by rw [if_neg z0, if_neg z1, if_neg z2, if_neg z3, if_neg z4, if_neg z5, if_neg z6, if_pos z7, x1, cI_rI]), S152_scr h x2⟩
  by_cases z8 : w = 8
  · obtain ⟨τ, x1, x2⟩ := mayBe_at h (d := 90) a0 a1
    obtain ⟨v, y1, y2⟩ := sure_both (σ := σ) (τ := τ) (d := 97) (d2 := 96) a0 (by omega) rfl (fun y y6 y1 => by
      cases q : gb (σ.1 76 a.toNat) y with
      | false => rfl
      | true =>
        have := (((h.mb a0 a1).2.2.2 y (by omega) y1).mp q).1
        omega)
    refine ⟨v, σ, τ, r, p, l, sN _ (by rw [if_neg z0, if_neg z1, if_neg z2, if_neg z3, if_neg z4, if_neg z5, if_neg z6, if_neg z7, if_pos z8, y1, cI_rI]), sM _ ?_, S152_scr h x2⟩
    rw [if_neg z0, if_neg z1, if_neg z2, if_neg z3, if_neg z4, if_neg z5, if_neg z6, if_neg z7, if_pos z8, f_M_sureOf_eq, x1, cI_rI]
    rw [y2, cI_rI]
  · exact ⟨_, σ, σ, r, p, l, sN _ (by rw [if_neg z0, if_neg z1, if_neg z2, if_neg z3, if_neg z4, if_neg z5, if_neg z6, if_neg z7, if_neg z8]), sM _ (by rw [if_neg z0, if_neg z1, if_neg z2, if_neg z3, if_neg z4, if_neg z5, if_neg z6, if_neg z7, if_neg z8]), h⟩
