/-! mayWed -/
def nrB (σ : Sg) (p : Nat) (x : Int) : Int32 := ((bitF (rd σ (p + 3) x) ||| bitF (rd σ (p + 4) x)) ||| σ.1 (p + 6) x.toNat) ||| σ.1 (p + 7) x.toNat
def SuP (σ : Sg) (r p : Nat) (x y : Int) : Prop := rd σ (p + 1) y ≠ rd σ (p + 1) x ∧ rd σ (p + 5) y = -1 ∧ gb (nrB σ p x) y = false ∧ ∃ z, 0 ≤ z ∧ z < rd σ r 0 ∧ gb (σ.1 76 x.toNat) z = true ∧ gb (σ.1 76 y.toNat) (spF (rd σ (r + 1)) (rd σ (r + 2)) (rd σ (p + 1) x) z) = true
/-- the set of those whom one may wed -/
def SuS (σ : Sg) (r p : Nat) (x : Int) (s : Int32) : Prop := ∀ y, 0 ≤ y → y < 32 → (gb s y = true ↔ rd σ (p + 5) x = -1 ∧ y < rd σ p 0 ∧ SuP σ r p x y)
theorem SuS.eq {σ : Sg} {r p : Nat} {x : Int} {s t : Int32} (h : SuS σ r p x s) (h' : SuS σ r p x t) : s = t := gb_ext fun y y0 y1 => by rw [Bool.eq_iff_iff, h y y0 y1, h' y y0 y1]
theorem spouseNames_sp {σ : Sg} {r d : Nat} {n : Int} (hr : RuleAt σ r n) (n0 : 0 ≤ n) {s : Int} (s01 : s = 0 ∨ s = 1) {u : Int32} : ∃ t, f_Houses_spouseNames (d + 2) r (zI s) u σ = rI t σ ∧ ∀ y, 0 ≤ y → y < 32 → (gb t y = true ↔ ∃ z, 0 ≤ z ∧ z < n ∧ gb u z = true ∧ spF (rd σ (r + 1)) (rd σ (r + 2)) s z = y) := by
  have n6 := hr.2.2.1
  have e0 : σ.1 r 0 = zI n := by rw [rd_k]; exact congrArg zI hr.2.1
  have loop : ∀ (k : Nat) (i : Int) (t : Int32), i + k = n → 0 ≤ i → (∀ y, 0 ≤ y → y < 32 → (gb t y = true ↔ ∃ z, 0 ≤ z ∧ z < i ∧ gb u z = true ∧ spF (rd σ (r + 1)) (rd σ (r + 2)) s z = y)) → ∃ t', f_Houses_spouseNames_5 (d + 1) r (zI s) u t (zI i) σ = rI t' σ ∧ ∀ y, 0 ≤ y → y < 32 → (gb t' y = true ↔ ∃ z, 0 ≤ z ∧ z < n ∧ gb u z = true ∧ spF (rd σ (r + 1)) (rd σ (r + 2)) s z = y) := by
    intro k
    induction k with
    | zero =>
      intro i t hi i0 ht
      have : i = n := by omega
      subst this
      exact ⟨t, by rw [f_Houses_spouseNames_5_eq, gfI_of hr.1.s0, e0, if_neg Int32.lt_irrefl], ht⟩
    | succ k ih =>
      intro i t hi i0 ht
      have i1 : i < n := by omega
      have sb := spF_bd hr.2.2 (s := s) i0 i1
      rw [f_Houses_spouseNames_5_eq, gfI_of hr.1.s0, e0, if_pos (by rw [zI_le (by omega) (by omega)]; exact i1), show (31 : Int32) = zI 31 from zI_lit 31, show (1 : Int32) = zI 1 from zI_lit 1, sh_bz u i0 (by omega), gdK_of hr.1.s0, spouse_sp hr s01 i0 i1, cI_rI, zI_add, zI_0]
      cases q : gb u i with
      | false =>
        rw [bz_ff, if_pos rfl]
        refine ih (i + 1) t (by omega) (by omega) fun y y0 y1 => (ht y y0 y1).trans ⟨fun ⟨z, z0, z1, w⟩ => ⟨z, z0, by omega, w⟩, fun ⟨z, z0, z1, w1, w2⟩ => ?_⟩
        by_cases e : z = i
        · subst e; rw [q] at w1; cases w1
        · exact ⟨z, z0, by omega, w1, w2⟩
      | true =>
        rw [bz_tt, if_neg (by decide)]
        refine ih (i + 1) _ (by omega) (by omega) fun y y0 y1 => ?_
        rw [gb_or, Bool.or_eq_true, ht y y0 y1, gb_sh sb.1 (by omega) y0 y1, decide_eq_true_eq]
        constructor
        · rintro (⟨z, z0, z1, w⟩ | e)
          · exact ⟨z, z0, by omega, w⟩
          · exact ⟨i, i0, by omega, q, e.symm⟩
        · rintro ⟨z, z0, z1, w1, w2⟩
          by_cases e : z = i
          · subst e; exact Or.inr w2.symm
          · exact Or.inl ⟨z, z0, by omega, w1, w2⟩
  rw [f_Houses_spouseNames_eq, zI_0]
  exact loop n.toNat 0 _ (by omega) (by decide) fun y y0 y1 => by
    rw [gb_0]
    exact ⟨fun q => absurd q Bool.false_ne_true, fun ⟨j, j0, j1, _⟩ => by omega⟩
theorem nearTo_sp {σ : Sg} {r p d : Nat} (h : IRoll r p σ) (hp : isP p) (n6 : rd σ r 0 ≤ 6) {x : Int} (x0 : 0 ≤ x) (x1 : x < rd σ p 0) : f_Roll_nearTo (d + 2) p (zI x) σ = rI (nrB σ p x) σ := by
  obtain ⟨-, -, ⟨f0, f1, f2⟩, ⟨g0, g1, g2⟩, -⟩ := h.1.bd n6 x0 x1
  have m24 := h.1.2.1
  obtain ⟨-, -, cc⟩ := h.c hp
  obtain ⟨-, -, e3, e4, -⟩ := cc x x0
  rw [f_Roll_nearTo_eq, gfS_of hp.s0, ofs_4_3, ldi_of hp.s3 x0 (by omega) (by omega), e3, bitN_sp ⟨f0, by omega⟩, cI_rI, gfS_of hp.s0, ofs_4_4, ldi_of hp.s4 x0 (by omega) (by omega), e4, bitN_sp ⟨g0, by omega⟩, cI_rI, gfS_of hp.s0, ofs_4_6, ldi_of hp.s6 x0 (by omega) (by omega), gfS_of hp.s0, ofs_4_7, ldi_of hp.s7 x0 (by omega) (by omega)]
  rfl
theorem and_some {u v : Int32} : (u &&& v = zI 0) ↔ ¬ ∃ y, 0 ≤ y ∧ y < 32 ∧ gb u y = true ∧ gb v y = true := by
  constructor
  · rintro e ⟨y, y0, y1, a, b⟩
    have : gb (u &&& v) y = true := by rw [gb_and, a, b]; rfl
    rw [e, gb_0] at this; cases this
  · intro no
    refine gb_ext fun y y0 y1 => ?_
    rw [gb_0, gb_and]
    cases a : gb u y with
    | false => rfl
    | true =>
      cases b : gb v y with
      | false => rfl
      | true => exact absurd ⟨y, y0, y1, a, b⟩ no
theorem suitable_sp {r p l : Nat} {σ : Sg} (hro : IRoll r p σ) (hru : IRule r σ) (hp : isP p) {d : Nat} {x : Int} (x0 : 0 ≤ x) (x1 : x < rd σ p 0) : ∃ s, f_Houses_suitable (d + 3) r p (zI x) σ = rI s σ ∧ SuS σ r p x s := by
  have hx := HX.mk hp hro hru
  obtain ⟨nm, ⟨n0, n6⟩, -, -⟩ := hx.nm
  obtain ⟨rl, -, -, m0, m24⟩ := hx.rl
  have hr := hru.1
  obtain ⟨-, -, cc⟩ := hro.c hp
  obtain ⟨S01, -, -, -, d0, d1, d2⟩ := rl.bd n6 x0 x1
  have em : σ.1 p 0 = zI (rd σ p 0) := rd_k σ p 0
  have dx : (zI (rd σ (p + 5) x) < zI 0) = (rd σ (p + 5) x < 0) := zI_le (by omega) (by decide)
  rw [f_Houses_suitable_eq, gfS_of hp.s0, ofs_4_5, ldi_of hp.s5 x0 (by omega) (by omega), (cc x x0).2.2.2.2, zI_0]
  by_cases z : rd σ (p + 5) x < 0
  · rw [if_pos (by rw [dx]; exact z), gfS_of hp.s0, ofs_4_1, ldi_of hp.s1 x0 (by omega) (by omega), (cc x x0).1, bnd_zI x0 (by omega) (by omega), ix_zI x0 (by omega)]
    obtain ⟨due, u1, u2⟩ := spouseNames_sp hr n0 (d := d) S01 (u := σ.1 76 x.toNat)
    rw [u1, cI_rI, gdK_of hp.s0, nearTo_sp hro hp n6 (d := d) x0 x1, cI_rI]
    have loop : ∀ (k : Nat) (i : Int) (s : Int32) (v v8 : Value), i + k = rd σ p 0 → 0 ≤ i → (∀ y, 0 ≤ y → y < 32 → (gb s y = true ↔ y < i ∧ SuP σ r p x y)) → ∃ s', f_Houses_suitable_42 (d + 2) v p (zI x) due (nrB σ p x) s (zI i) v8 σ = rI s' σ ∧ ∀ y, 0 ≤ y → y < 32 → (gb s' y = true ↔ y < rd σ p 0 ∧ SuP σ r p x y) := by
      intro k
      induction k with
      | zero =>
        intro i s v v8 hi i0 hs
        have : i = rd σ p 0 := by omega
        subst this
        exact ⟨s, by rw [f_Houses_suitable_42_eq, gfI_of hp.s0, em, if_neg Int32.lt_irrefl], hs⟩
      | succ k ih =>
        intro i s v v8 hi i0 hs
        have i1 : i < rd σ p 0 := by omega
        obtain ⟨S01i, -, -, -, d0i, d1i, d2i⟩ := rl.bd n6 i0 i1
        have ei := cc i i0
        have k1 : (zI (rd σ (p + 1) i) = zI (rd σ (p + 1) x)) = (rd σ (p + 1) i = rd σ (p + 1) x) := zI_eq (by omega) (by omega)
        have k2 : (zI (rd σ (p + 5) i) < zI 0) = (rd σ (p + 5) i < 0) := zI_le (by omega) (by decide)
        have fin : ∀ (b : Bool) (v8 : Value), (b = true ↔ SuP σ r p x i) → ∃ s', f_Houses_suitable_42 (d + 2) v p (zI x) due (nrB σ p x) (if b = true then s ||| (zI 1 <<< (zI i &&& zI 31)) else s) (zI (i + 1)) v8 σ = rI s' σ ∧ ∀ y, 0 ≤ y → y < 32 → (gb s' y = true ↔ y < rd σ p 0 ∧ SuP σ r p x y) := fun b v8 hb => by
          refine ih (i + 1) _ v v8 (by omega) (by omega) fun y y0 y1 => ?_
          cases b with
          | false =>
            rw [if_neg Bool.false_ne_true, hs y y0 y1]
            refine ⟨fun q => ⟨by omega, q.2⟩, fun q => ⟨?_, q.2⟩⟩
            have : y ≠ i := fun e => by subst e; have := hb.mpr q.2; cases this
            omega
          | true =>
            rw [if_pos rfl, gb_or, Bool.or_eq_true, hs y y0 y1, gb_sh i0 (by omega) y0 y1, decide_eq_true_eq]
            constructor
            · rintro (q | rfl)
              · exact ⟨by omega, q.2⟩
              · exact ⟨by omega, hb.mp rfl⟩
            · rintro ⟨q1, q2⟩
              by_cases e : y = i
              · exact Or.inr e
              · exact Or.inl ⟨by omega, q2⟩
        rw [f_Houses_suitable_42_eq, gfI_of hp.s0, em, if_pos (by rw [zI_le (by omega) (by omega)]; exact i1), gfS_of hp.s0, ofs_4_1, ldi_of hp.s1 i0 (by omega) (by omega), gfS_of hp.s0, ofs_4_1, ldi_of hp.s1 x0 (by omega) (by omega), ei.1, (cc x x0).1, show (1 : Int32) = zI 1 from zI_lit 1, show (31 : Int32) = zI 31 from zI_lit 31, zI_add, zI_0]
        by_cases a : rd σ (p + 1) i = rd σ (p + 1) x
        · rw [if_pos (by rw [k1]; exact a), if_pos rfl]
          have := fin false (.int (zI 0)) ⟨fun q => (by cases q), fun q => absurd a q.1⟩
          rw [if_neg Bool.false_ne_true] at this
          exact this
        · rw [if_neg (by rw [k1]; exact a), gfS_of hp.s0, ofs_4_5, ldi_of hp.s5 i0 (by omega) (by omega), ei.2.2.2.2]
          by_cases b : rd σ (p + 5) i < 0
          · rw [if_pos (by rw [k2]; exact b), sh_bz _ i0 (by omega)]
            cases c : gb (nrB σ p x) i with
            | true =>
              rw [bz_tt, if_neg (by decide), if_pos rfl]
              have := fin false (.int (zI 0)) ⟨fun q => (by cases q), fun q => by rw [q.2.2.1] at c; cases c⟩
              rw [if_neg Bool.false_ne_true] at this
              exact this
            | false =>
              rw [bz_ff, if_pos rfl, if_neg (by decide), bnd_zI i0 (by omega) (by omega), ix_zI i0 (by omega)]
              have nz : (∃ y, 0 ≤ y ∧ y < 32 ∧ gb (σ.1 76 i.toNat) y = true ∧ gb due y = true) ↔ ∃ z, 0 ≤ z ∧ z < rd σ r 0 ∧ gb (σ.1 76 x.toNat) z = true ∧ gb (σ.1 76 i.toNat) (spF (rd σ (r + 1)) (rd σ (r + 2)) (rd σ (p + 1) x) z) = true := by
                constructor
                · rintro ⟨y, y0, y1, g1, g2⟩
                  obtain ⟨z, z0, z1, z2, z3⟩ := (u2 y y0 y1).mp g2
                  exact ⟨z, z0, z1, z2, by rw [z3]; exact g1⟩
                · rintro ⟨z, z0, z1, z2, z3⟩
                  have sb := spF_bd nm (s := rd σ (p + 1) x) z0 z1
                  exact ⟨_, sb.1, by omega, z3, (u2 _ sb.1 (by omega)).mpr ⟨z, z0, z1, z2, rfl⟩⟩
              by_cases e : σ.1 76 i.toNat &&& due = zI 0
              · rw [if_pos e]
                have := fin false (.int (zI 1)) ⟨fun q => (by cases q), fun q => absurd (nz.mpr q.2.2.2) (and_some.mp e)⟩
                rw [if_neg Bool.false_ne_true] at this
                exact this
              · rw [if_neg e]
                have ex : ∃ y, 0 ≤ y ∧ y < 32 ∧ gb (σ.1 76 i.toNat) y = true ∧ gb due y = true := by
                  rcases Classical.em (∃ y, 0 ≤ y ∧ y < 32 ∧ gb (σ.1 76 i.toNat) y = true ∧ gb due y = true) with q | q
                  · exact q
                  · exact absurd (and_some.mpr q) e
                have := fin true (.int (zI 1)) ⟨fun _ => ⟨a, by omega, c, nz.mp ex⟩, fun _ => rfl⟩
                rw [if_pos rfl] at this
                exact this
          · rw [if_neg (by rw [k2]; exact b), if_pos rfl]
            have := fin false (.int (zI 0)) ⟨fun q => (by cases q), fun q => by have := q.2.1; omega⟩
            rw [if_neg Bool.false_ne_true] at this
            exact this
    obtain ⟨s', a1, a2⟩ := loop (rd σ p 0).toNat 0 (zI 0) (.ref r) .null (by omega) (by decide) fun y y0 y1 => by
      rw [gb_0]; exact ⟨fun q => absurd q Bool.false_ne_true, fun q => by omega⟩
    exact ⟨s', a1, fun y y0 y1 => (a2 y y0 y1).trans ⟨fun q => ⟨by omega, q⟩, fun q => q.2⟩⟩
  · rw [if_neg (by rw [dx]; exact z)]
    exact ⟨_, rfl, fun y y0 y1 => by
      rw [gb_0]; exact ⟨fun q => absurd q Bool.false_ne_true, fun q => by omega⟩⟩
