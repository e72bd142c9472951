theorem canBeMended_sp {σ : Sg} {d : Nat} {m : Int} (m0 : 0 ≤ m) (m24 : m ≤ 24) : ∃ b, f_Houses_canBeMended (d + 1) (zI m) σ = rI (bz b) σ ∧ (b = true ↔ ∀ x, 0 ≤ x → x < m → hdP σ x = true → rd σ 80 x ≠ 25) := by
  have main : ∀ (k : Nat) (i : Int), i + k = m → 0 ≤ i → (∀ x, 0 ≤ x → x < i → hdP σ x = true → rd σ 80 x ≠ 25) → ∃ b, f_Houses_canBeMended_2 d (zI m) (zI i) σ = rI (bz b) σ ∧ (b = true ↔ ∀ x, 0 ≤ x → x < m → hdP σ x = true → rd σ 80 x ≠ 25) := by
    intro k
    induction k with
    | zero =>
      intro i hi i0 h
      have : i = m := by omega
      subst this
      refine ⟨true, ?_, fun _ => h, fun _ => rfl⟩
      rw [f_Houses_canBeMended_2_eq, if_neg Int32.lt_irrefl, rZ_1]; rfl
    | succ k ih =>
      intro i hi i0 h
      have i1 : i < m := by omega
      have e77 : σ.1 77 i.toNat = zI (rd σ 77 i) := by rw [rd_k, toNat_c i0]
      have e80 : σ.1 80 i.toNat = zI (rd σ 80 i) := by rw [rd_k, toNat_c i0]
      have k77 : (zI (rd σ 77 i) = zI i) = (rd σ 77 i = i) := zI_eq ⟨rd_lo _ _ _, rd_hi _ _ _⟩ (by omega)
      have k80 : (zI (rd σ 80 i) = zI 25) = (rd σ 80 i = 25) := zI_eq ⟨rd_lo _ _ _, rd_hi _ _ _⟩ (by decide)
      rw [f_Houses_canBeMended_2_eq, if_pos (by rw [zI_le (by omega) (by omega)]; exact i1), bnd_zI i0 (by omega) (by omega), bnd_zI i0 (by omega) (by omega), ix_zI i0 (by omega), e77, e80, show (25 : Int32) = zI 25 from zI_lit 25, show (1 : Int32) = zI 1 from zI_lit 1, zI_add]
      by_cases z : rd σ 77 i = i
      · rw [if_pos (by rw [k77]; exact z)]
        by_cases y : rd σ 80 i = 25
        · rw [if_pos (by rw [k80]; exact y), rZ_0]
          exact ⟨false, rfl, fun q => (by cases q), fun q => absurd y (q i i0 i1 (decide_eq_true z))⟩
        · rw [if_neg (by rw [k80]; exact y)]
          exact ih (i + 1) (by omega) (by omega) fun x x0 x1 hx => by
            by_cases q : x = i
            · rw [q]; exact y
            · exact h x x0 (by omega) hx
      · rw [if_neg (by rw [k77]; exact z)]
        exact ih (i + 1) (by omega) (by omega) fun x x0 x1 hx => by
          by_cases q : x = i
          · subst q; exact absurd (of_decide_eq_true hx) z
          · exact h x x0 (by omega) hx
  rw [f_Houses_canBeMended_eq, zI_0]
  exact main m.toNat 0 (by omega) (by decide) fun x x0 x1 => by omega
theorem goneNames_sp {σ : Sg} {d : Nat} {m : Int} (m0 : 0 ≤ m) (m24 : m ≤ 24) : ∃ s, f_Houses_goneNames (d + 1) (zI m) σ = rI s σ ∧ ∀ y, 0 ≤ y → y < 32 → (gb s y = true ↔ ∃ e, 0 ≤ e ∧ e < m ∧ hdP σ e = true ∧ gb (σ.1 81 e.toNat) y = true) := by
  rw [f_Houses_goneNames_eq, zI_0]
  refine orloop (F := fun i s => f_Houses_goneNames_4 d (zI m) s (zI i) σ) (g := fun e => σ.1 81 e.toNat) (P := hdP σ) (fun i s i0 i1 => ?_) (fun s => ?_) m0
  · show f_Houses_goneNames_4 _ _ _ _ _ = f_Houses_goneNames_4 _ _ _ _ _
    have e77 : σ.1 77 i.toNat = zI (rd σ 77 i) := by rw [rd_k, toNat_c i0]
    have k77 : (zI (rd σ 77 i) = zI i) = (rd σ 77 i = i) := zI_eq ⟨rd_lo _ _ _, rd_hi _ _ _⟩ (by omega)
    rw [f_Houses_goneNames_4_eq, if_pos (by rw [zI_le (by omega) (by omega)]; exact i1), bnd_zI i0 (by omega) (by omega), bnd_zI i0 (by omega) (by omega), ix_zI i0 (by omega), e77, show (1 : Int32) = zI 1 from zI_lit 1, zI_add]
    unfold hdP
    by_cases z : rd σ 77 i = i
    · rw [if_pos (by rw [k77]; exact z), if_pos (decide_eq_true z)]
    · rw [if_neg (by rw [k77]; exact z), if_neg (by simpa using z)]
  · show f_Houses_goneNames_4 _ _ _ _ _ = _
    rw [f_Houses_goneNames_4_eq, if_neg Int32.lt_irrefl]
theorem mendedM_sp {r p l : Nat} {σ : Sg} (h : Inv r p l σ) {d : Nat} {w : Int} (hw : w = 0 ∨ w = 1) {b : Bool} (hb : b = true ↔ ∀ x, 0 ≤ x → x < rd σ p 0 → hdP σ x = true → rd σ 80 x ≠ 25) {u : Int32} (hu : ∀ y, 0 ≤ y → y < 32 → (gb u y = true ↔ ∃ e, 0 ≤ e ∧ e < rd σ p 0 ∧ hdP σ e = true ∧ gb (σ.1 81 e.toNat) y = true)) : ∃ τ', f_M_mended_15 (d + 9) (zI w) (zI 0) (zI 0) .null σ = rI (if b = true then (if w = 0 then zI (cnt (gb u) 24) else u) else zI (-2)) τ' ∧ Fr S152 σ τ' := by
  obtain ⟨m0, m24, -⟩ := h.2.2.2.1.1
  have hbt := h.bits
  have loop : ∀ (k : Nat) (i : Int) (s : Int32) (v : Value) (τ : Sg), i + k = rd σ p 0 → 0 ≤ i → Fr S152 σ τ → (∀ x, 0 ≤ x → x < i → hdP σ x = true → rd σ 80 x ≠ 25) → (∀ y, 0 ≤ y → y < 32 → (gb s y = true ↔ ∃ e, 0 ≤ e ∧ e < i ∧ hdP σ e = true ∧ gb (σ.1 81 e.toNat) y = true)) → ∃ τ', f_M_mended_15 (d + 9) (zI w) s (zI i) v τ = rI (if b = true then (if w = 0 then zI (cnt (gb u) 24) else u) else zI (-2)) τ' ∧ Fr S152 σ τ' := by
    intro k
    induction k with
    | zero =>
      intro i s v τ hi i0 K hg hs
      have : i = rd σ p 0 := by omega
      subst this
      have su : s = u := gb_ext fun y y0 y1 => by rw [Bool.eq_iff_iff, hs y y0 y1, hu y y0 y1]
      refine ⟨τ, ?_, K⟩
      rw [f_M_mended_15_eq, (h.hx.f152 K).rl.2.2.1, if_neg Int32.lt_irrefl, zI_0, hb.mpr hg, if_pos rfl, su]
      rcases hw with rfl | rfl
      · rw [if_pos rfl, if_pos rfl, bits_sp, cI_rI]
      · rw [if_neg (by decide), if_neg (by decide)]
    | succ k ih =>
      intro i s v τ hi i0 K hg hs
      have i1 : i < rd σ p 0 := by omega
      have hτ := S152_scr h K
      have ep : rd τ p 0 = rd σ p 0 := fr_rd K (by rcases hbt.2.1 with rfl | rfl <;> rfl)
      have e77 : rd τ 77 i = rd σ 77 i := fr_rd K rfl
      have e80 : rd τ 80 i = rd σ 80 i := fr_rd K rfl
      have e81 : τ.1 81 i.toNat = σ.1 81 i.toNat := K.2 _ _ rfl
      have fi := isFirst_sp hτ (d := d + 5) i0 (by rw [ep]; exact i1)
      rw [e77] at fi
      rw [f_M_mended_15_eq, (h.hx.f152 K).rl.2.2.1, if_pos (by rw [zI_le (by omega) (by omega)]; exact i1), fi, cI_rI, zI_0, show (1 : Int32) = zI 1 from zI_lit 1, zI_add]
      by_cases z : rd σ 77 i = i
      · obtain ⟨τ1, m1, K1, m3⟩ := mended_at hτ (d := d + 1) i0 (by rw [ep]; exact i1) (by rw [e77]; exact z)
        rw [e80, e81] at m1 m3
        rw [decide_eq_true z, bz_tt, if_neg (by decide), m1, cI_rI, show -zI 1 = zI (-1) from zI_neg 1]
        by_cases y : rd σ 80 i = 25
        · have nb : ¬ b = true := fun q => hb.mp q i i0 i1 (decide_eq_true z) y
          rw [if_pos y, if_pos rfl, if_neg nb]
          exact ⟨τ1, rfl, K.tr K1⟩
        · rw [if_neg y, if_neg (m3 y).1]
          refine ih (i + 1) _ _ τ1 (by omega) (by omega) (K.tr K1) (fun x x0 x1 hx => ?_) fun a a0 a1 => ?_
          · by_cases q : x = i
            · rw [q]; exact y
            · exact hg x x0 (by omega) hx
          · rw [gb_or, Bool.or_eq_true, hs a a0 a1]
            constructor
            · rintro (⟨e, x0, x1, q⟩ | q)
              · exact ⟨e, x0, by omega, q⟩
              · exact ⟨i, i0, by omega, decide_eq_true z, q⟩
            · rintro ⟨e, x0, x1, q1, q2⟩
              by_cases ei : e = i
              · subst ei; exact Or.inr q2
              · exact Or.inl ⟨e, x0, by omega, q1, q2⟩
      · rw [decide_eq_false z, bz_ff, if_pos rfl]
        refine ih (i + 1) s v τ (by omega) (by omega) K (fun x x0 x1 hx => ?_) fun a a0 a1 => (hs a a0 a1).trans ⟨fun ⟨e, x0, x1, q⟩ => ⟨e, x0, by omega, q⟩, fun ⟨e, x0, x1, q1, q2⟩ => ?_⟩
        · by_cases q : x = i
          · subst q; exact absurd (of_decide_eq_true hx) z
          · exact hg x x0 (by omega) hx
        · by_cases ei : e = i
          · subst ei; exact absurd (of_decide_eq_true q1) z
          · exact ⟨e, x0, by omega, q1, q2⟩
  exact loop (rd σ p 0).toNat 0 (zI 0) .null σ (by omega) (by decide) (Fr.rf _ _) (fun x x0 x1 => by omega) fun y y0 y1 => by
    rw [gb_0]
    exact ⟨fun q => absurd q Bool.false_ne_true, fun ⟨j, j0, j1, _⟩ => by omega⟩
theorem c_mended {σ : Sg} {r p l : Nat} (h : Inv r p l σ) (w : Int32) : Same (f_N_mended 100 w) (f_M_mended 100 w) σ := by
  obtain ⟨w, rfl, hw⟩ := zI_ex w
  have hP := h.1.2.1
  have q3 : σ.2.2 4 3 = p := h.1.2.2.2.2.2.1
  obtain ⟨m0, m24, -⟩ := h.2.2.2.1.1
  have em : σ.1 p 0 = zI (rd σ p 0) := rd_k σ p 0
  have iM := in_sp (σ := σ) (d := 98) (a := w) (b := 0) (c := 1) hw (by decide) (by decide)
  have k0 : (zI w = zI 0) = (w = 0) := zI_eq hw (by decide)
  have k1 : (zI w = zI 1) = (w = 1) := zI_eq hw (by decide)
  by_cases q : ¬ (w = 0 ∨ w = 1)
  · refine ⟨-1, σ, σ, r, p, l, ?_, ?_, h⟩
    · rw [f_N_mended_eq, zI_0, show (1 : Int32) = zI 1 from zI_lit 1, if_neg (by rw [k0]; omega), if_neg (by rw [k1]; omega)]
    · rw [f_M_mended_eq, zI_0, show (1 : Int32) = zI 1 from zI_lit 1, iM, cI_rI, decide_eq_false (by omega), bz_ff, if_pos rfl]
  have q := Classical.not_not.mp q
  obtain ⟨b, b1, b2⟩ := canBeMended_sp (σ := σ) (d := 98) m0 m24
  obtain ⟨u, u1, u2⟩ := goneNames_sp (σ := σ) (d := 98) m0 m24
  obtain ⟨τ, t1, t2⟩ := mendedM_sp h (d := 90) q b2 u2
  have sM : f_M_mended 100 (zI w) σ = rI (if b = true then (if w = 0 then zI (cnt (gb u) 24) else u) else zI (-2)) τ := by
    rw [f_M_mended_eq, zI_0, show (1 : Int32) = zI 1 from zI_lit 1, iM, cI_rI, decide_eq_true (by omega), bz_tt, if_neg (by decide)]
    exact t1
  refine ⟨_, σ, τ, r, p, l, ?_, sM, S152_scr h t2⟩
  cases hbv : b with
  | false =>
    rw [hbv] at b1
    rw [if_neg Bool.false_ne_true]
    rw [f_N_mended_eq, q3, gfI_of hP.s0, em, b1, cI_rI, bz_ff, zI_0, show (1 : Int32) = zI 1 from zI_lit 1]
    rcases q with z | z
    · rw [if_pos (by rw [k0]; exact z), if_pos rfl]; rfl
    · rw [if_neg (by rw [k0]; omega), if_pos (by rw [k1]; exact z), if_pos rfl]; rfl
  | true =>
    rw [hbv] at b1
    have big : ∀ k : Int, 24 ≤ k → k < 32 → gb u k = false := fun k k0 k1 => by
      cases y : gb u k with
      | false => rfl
      | true =>
        obtain ⟨e, e0, e1, e2, e3⟩ := (u2 k (by omega) k1).mp y
        obtain ⟨-, -, -, m3⟩ := mended_at h (d := 0) e0 e1 (of_decide_eq_true e2)
        rw [(m3 (b2.mp hbv e e0 e1 e2)).2 k k0 k1] at e3
        cases e3
    have bc := bitCount_sp (σ := σ) (d := 98) big
    rw [if_pos rfl]
    rcases q with z | z
    · rw [f_N_mended_eq, zI_0, if_pos (by rw [k0]; exact z), q3, gfI_of hP.s0, em, b1, cI_rI, bz_tt, if_neg (by decide), q3, gfI_of hP.s0, em, u1, cI_rI, if_pos (by rw [k0]; exact z), bc, cI_rI, if_pos z]
    · rw [f_N_mended_eq, zI_0, show (1 : Int32) = zI 1 from zI_lit 1, if_neg (by rw [k0]; omega), if_pos (by rw [k1]; exact z), q3, gfI_of hP.s0, em, b1, cI_rI, bz_tt, if_neg (by decide), q3, gfI_of hP.s0, em, u1, cI_rI, if_neg (by rw [k0]; omega), if_neg (by omega)]
