def S154 (a k : Nat) : Bool := S152 a k || a == 154
theorem S154_scr {r p l : Nat} {σ τ : Sg} (h : Inv r p l σ) (K : Fr S154 σ τ) : Inv r p l τ := by
  have hb := h.bits
  refine h.scr K ?_ ?_ (by rcases hb.2.2 with rfl | rfl <;> rfl) (by rcases hb.2.2 with rfl | rfl <;> repeat (first | exact trivial | refine ⟨fun _ => rfl, ?_⟩ | refine ⟨rfl, ?_⟩)) ?_ ⟨rfl, rfl⟩
  · repeat (first | exact trivial | refine ⟨fun _ => rfl, ?_⟩ | refine ⟨rfl, ?_⟩)
  · repeat (first | exact trivial | refine ⟨fun _ => rfl, ?_⟩ | refine ⟨rfl, ?_⟩)
  · repeat (first | exact trivial | refine ⟨fun _ => rfl, ?_⟩ | refine ⟨rfl, ?_⟩)
theorem laysMayBe_sp {r p l : Nat} {σ : Sg} (h : Inv r p l σ) {d : Nat} : ∃ τ, f_M_laysMayBe (d + 9) σ = rV τ ∧ Fr S154 σ τ ∧ ∀ y, 0 ≤ y → y < rd σ p 0 → τ.1 154 y.toNat = σ.1 76 y.toNat := by
  have hbt := h.bits
  obtain ⟨m0, m24, -⟩ := h.2.2.2.1.1
  have loop : ∀ (k : Nat) (i : Int) (τ : Sg), i + k = rd σ p 0 → 0 ≤ i → Fr S154 σ τ → (∀ y, 0 ≤ y → y < i → τ.1 154 y.toNat = σ.1 76 y.toNat) → ∃ τ', f_M_laysMayBe_2 (d + 8) (zI i) τ = rV τ' ∧ Fr S154 σ τ' ∧ ∀ y, 0 ≤ y → y < rd σ p 0 → τ'.1 154 y.toNat = σ.1 76 y.toNat := by
    intro k
    induction k with
    | zero =>
      intro i τ hi i0 K ht
      have : i = rd σ p 0 := by omega
      subst this
      have hτ := S154_scr h K
      have em : τ.1 102 69 = zI (rd σ p 0) := by
        rw [K.2 102 69 rfl, rd_k]; exact congrArg zI h.2.2.2.1.2.1
      exact ⟨τ, by rw [f_M_laysMayBe_2_eq, em, if_neg Int32.lt_irrefl], K, ht⟩
    | succ k ih =>
      intro i τ hi i0 K ht
      have i1 : i < rd σ p 0 := by omega
      have hτ := S154_scr h K
      have em : τ.1 102 69 = zI (rd σ p 0) := by
        rw [K.2 102 69 rfl, rd_k]; exact congrArg zI h.2.2.2.1.2.1
      have ep : rd τ p 0 = rd σ p 0 := fr_rd K (by rcases hbt.2.1 with rfl | rfl <;> rfl)
      obtain ⟨τ1, m1, K1⟩ := mayBe_at hτ (d := d) i0 (by rw [ep]; exact i1)
      have e76 : τ.1 76 i.toNat = σ.1 76 i.toNat := K.2 _ _ rfl
      rw [e76] at m1
      have K01 : Fr S154 σ τ1 := K.tr (K1.mono fun a k e => by simp only [S154, Bool.or_eq_false_iff] at e; exact e.1)
      obtain ⟨τ', a1, a2⟩ := ih (i + 1) (sI τ1 154 i.toNat (σ.1 76 i.toNat)) (by omega) (by omega) (K01.sI _ (by simp [S154])) fun y y0 y1 => by
        by_cases q : y = i
        · subst q; rw [sI_same]
        · rw [sI_slot _ _ _ _ (by omega), K1.2 _ _ rfl]; exact ht y y0 (by omega)
      refine ⟨τ', ?_, a2⟩
      rw [f_M_laysMayBe_2_eq, em, if_pos (by rw [zI_le (by omega) (by omega)]; exact i1), m1, cI_rI, bnd_zI i0 (by omega) (by omega), ix_zI i0 (by omega), show (1 : Int32) = zI 1 from zI_lit 1, zI_add]
      exact a1
  rw [f_M_laysMayBe_eq, zI_0]
  exact loop (rd σ p 0).toNat 0 σ (by omega) (by decide) (Fr.rf _ _) fun y y0 y1 => by omega
theorem goTogether_sp {r p : Nat} {τ : Sg} (hro : IRoll r p τ) (hru : IRule r τ) (hp : isP p) (h154 : ∀ y, 0 ≤ y → y < rd τ p 0 → τ.1 154 y.toNat = τ.1 76 y.toNat) {d : Nat} {x y : Int} (x0 : 0 ≤ x) (x1 : x < rd τ p 0) (y0 : 0 ≤ y) (y1 : y < rd τ p 0) : ∃ b, f_M_goTogether (d + 3) (zI x) (zI y) τ = rI (bz b) τ ∧ (b = true ↔ ∃ z, 0 ≤ z ∧ z < rd τ r 0 ∧ gb (τ.1 76 x.toNat) z = true ∧ gb (τ.1 76 y.toNat) (spF (rd τ (r + 1)) (rd τ (r + 2)) (rd τ (p + 1) x) z) = true) := by
  have hx := HX.mk hp hro hru
  obtain ⟨nm, ⟨n0, n6⟩, mr, e5⟩ := hx.nm
  obtain ⟨rl, rm, -, m0, m24⟩ := hx.rl
  obtain ⟨S01, -⟩ := rl.bd n6 x0 x1
  have e42 := (rm.2 x x0 x1).1
  have ex := h154 x x0 x1
  have ey := h154 y y0 y1
  have loop : ∀ (k : Nat) (i : Int), i + k = rd τ r 0 → 0 ≤ i → (∀ z, 0 ≤ z → z < i → gb (τ.1 76 x.toNat) z = true → ¬ gb (τ.1 76 y.toNat) (spF (rd τ (r + 1)) (rd τ (r + 2)) (rd τ (p + 1) x) z) = true) → ∃ b, f_M_goTogether_2 (d + 2) (zI x) (zI y) (zI i) τ = rI (bz b) τ ∧ (b = true ↔ ∃ z, 0 ≤ z ∧ z < rd τ r 0 ∧ gb (τ.1 76 x.toNat) z = true ∧ gb (τ.1 76 y.toNat) (spF (rd τ (r + 1)) (rd τ (r + 2)) (rd τ (p + 1) x) z) = true) := by
    intro k
    induction k with
    | zero =>
      intro i hi i0 h
      have : i = rd τ r 0 := by omega
      subst this
      refine ⟨false, ?_, fun q => (by cases q), fun ⟨z, z0, z1, z2, z3⟩ => absurd z3 (h z z0 z1 z2)⟩
      rw [f_M_goTogether_2_eq, e5, if_neg Int32.lt_irrefl, rZ_0]; rfl
    | succ k ih =>
      intro i hi i0 h
      have i1 : i < rd τ r 0 := by omega
      have sb := spF_bd nm (s := rd τ (p + 1) x) i0 i1
      rw [f_M_goTogether_2_eq, e5, if_pos (by rw [zI_le (by omega) (by omega)]; exact i1), bnd_zI x0 (by omega) (by omega), ix_zI x0 (by omega), ex, hasM_sp ⟨i0, by omega⟩, cI_rI, zI_0, show (1 : Int32) = zI 1 from zI_lit 1, zI_add]
      cases a : gb (τ.1 76 x.toNat) i with
      | false =>
        rw [bz_ff, if_pos rfl]
        exact ih (i + 1) (by omega) (by omega) fun z z0 z1 z2 => by
          by_cases e : z = i
          · subst e; rw [a] at z2; cases z2
          · exact h z z0 (by omega) z2
      | true =>
        rw [bz_tt, if_neg (by decide), bnd_zI y0 (by omega) (by omega), bnd_zI x0 (by omega) (by omega), e42, spouseOf_sp mr.1 S01 i0 i1, cI_rI, ix_zI y0 (by omega), ey, hasM_sp ⟨sb.1, by omega⟩, cI_rI]
        cases b : gb (τ.1 76 y.toNat) (spF (rd τ (r + 1)) (rd τ (r + 2)) (rd τ (p + 1) x) i) with
        | false =>
          rw [bz_ff, if_pos rfl]
          exact ih (i + 1) (by omega) (by omega) fun z z0 z1 z2 => by
            by_cases e : z = i
            · subst e; rw [b]; exact Bool.false_ne_true
            · exact h z z0 (by omega) z2
        | true =>
          rw [bz_tt, if_neg (by decide), rZ_z1]
          exact ⟨true, rfl, fun _ => ⟨i, i0, i1, a, b⟩, fun _ => rfl⟩
  rw [f_M_goTogether_eq, zI_0]
  exact loop (rd τ r 0).toNat 0 (by omega) (by decide) fun z z0 z1 => by omega
theorem whoMayWed_sp {r p : Nat} {τ : Sg} (hro : IRoll r p τ) (hru : IRule r τ) (hp : isP p) (h154 : ∀ y, 0 ≤ y → y < rd τ p 0 → τ.1 154 y.toNat = τ.1 76 y.toNat) {d : Nat} {x : Int} (x0 : 0 ≤ x) (x1 : x < rd τ p 0) : ∃ s, f_M_whoMayWed (d + 5) (zI x) τ = rI s τ ∧ SuS τ r p x s := by
  have hx := HX.mk hp hro hru
  obtain ⟨nm, ⟨n0, n6⟩, mr, e5⟩ := hx.nm
  obtain ⟨rl, rm, e69, m0, m24⟩ := hx.rl
  obtain ⟨S01, -, ⟨f0, f1, f2⟩, ⟨g0, g1, g2⟩, d0, d1, d2⟩ := rl.bd n6 x0 x1
  obtain ⟨e42, -, e44, e45, e46⟩ := rm.2 x x0 x1
  have dx : (zI (rd τ (p + 5) x) = zI (-1)) = (rd τ (p + 5) x = -1) := zI_eq (by omega) (by decide)
  have nr : ((τ.1 (p + 6) x.toNat ||| τ.1 (p + 7) x.toNat) ||| bitF (rd τ (p + 3) x)) ||| bitF (rd τ (p + 4) x) = nrB τ p x := gb_ext fun y y0 y1 => by
    unfold nrB
    simp only [gb_or]
    cases gb (τ.1 (p + 6) x.toNat) y <;> cases gb (τ.1 (p + 7) x.toNat) y <;> cases gb (bitF (rd τ (p + 3) x)) y <;> cases gb (bitF (rd τ (p + 4) x)) y <;> rfl
  rw [f_M_whoMayWed_eq, bnd_zI x0 (by omega) (by omega), ix_zI x0 (by omega), e46, show (-1 : Int32) = zI (-1) from rfl]
  by_cases z : rd τ (p + 5) x = -1
  · rw [if_pos (by rw [dx]; exact z), childrenOf_sp hro n6 x0 x1, cI_rI, siblingsOf_sp hro n6 x0 x1, cI_rI, bnd_zI x0 (by omega) (by omega), e44, bitM_sp ⟨f0, by omega⟩, cI_rI, bnd_zI x0 (by omega) (by omega), e45, bitM_sp ⟨g0, by omega⟩, cI_rI, nr, zI_0]
    have loop : ∀ (k : Nat) (i : Int) (s : Int32), i + k = rd τ p 0 → 0 ≤ i → (∀ y, 0 ≤ y → y < 32 → (gb s y = true ↔ y < i ∧ SuP τ r p x y)) → ∃ s', f_M_whoMayWed_49 (d + 4) (zI x) (nrB τ p x) s (zI i) τ = rI s' τ ∧ ∀ y, 0 ≤ y → y < 32 → (gb s' y = true ↔ y < rd τ p 0 ∧ SuP τ r p x y) := by
      intro k
      induction k with
      | zero =>
        intro i s hi i0 hs
        have : i = rd τ p 0 := by omega
        subst this
        exact ⟨s, by rw [f_M_whoMayWed_49_eq, e69, if_neg Int32.lt_irrefl], hs⟩
      | succ k ih =>
        intro i s hi i0 hs
        have i1 : i < rd τ p 0 := by omega
        obtain ⟨S01i, -, -, -, d0i, d1i, d2i⟩ := rl.bd n6 i0 i1
        obtain ⟨c1, -, -, -, c5⟩ := rm.2 i i0 i1
        have k1 : (zI (rd τ (p + 1) i) = zI (rd τ (p + 1) x)) = (rd τ (p + 1) i = rd τ (p + 1) x) := zI_eq (by omega) (by omega)
        have k2 : (zI (rd τ (p + 5) i) = zI (-1)) = (rd τ (p + 5) i = -1) := zI_eq (by omega) (by decide)
        have fin : ∀ (b : Bool), (b = true ↔ SuP τ r p x i) → ∃ s', f_M_whoMayWed_49 (d + 4) (zI x) (nrB τ p x) (if b = true then s ||| (zI 1 <<< (zI i &&& zI 31)) else s) (zI (i + 1)) τ = rI s' τ ∧ ∀ y, 0 ≤ y → y < 32 → (gb s' y = true ↔ y < rd τ p 0 ∧ SuP τ r p x y) := fun b hb => by
          refine ih (i + 1) _ (by omega) (by omega) fun y y0 y1 => ?_
          cases b with
          | false =>
            rw [if_neg Bool.false_ne_true, hs y y0 y1]
            refine ⟨fun q => ⟨by omega, q.2⟩, fun q => ⟨?_, q.2⟩⟩
            have : y ≠ i := fun e => by subst e; have := hb.mpr q.2; cases this
            omega
          | true =>
            rw [if_pos rfl, gb_or, Bool.or_eq_true, hs y y0 y1, gb_sh i0 (by omega) y0 y1, decide_eq_true_eq]
            constructor
            · rintro (q | rfl)
              · exact ⟨by omega, q.2⟩
              · exact ⟨by omega, hb.mp rfl⟩
            · rintro ⟨q1, q2⟩
              by_cases e : y = i
              · exact Or.inr e
              · exact Or.inl ⟨by omega, q2⟩
        have ff := fin false
        rw [if_neg Bool.false_ne_true] at ff
        have tt := fin true
        rw [if_pos rfl] at tt
        obtain ⟨b, gt1, gt2⟩ := goTogether_sp hro hru hp h154 (d := d + 1) x0 x1 i0 i1
        rw [f_M_whoMayWed_49_eq, e69, if_pos (by rw [zI_le (by omega) (by omega)]; exact i1), bnd_zI i0 (by omega) (by omega), bnd_zI x0 (by omega) (by omega), ix_zI i0 (by omega), ix_zI x0 (by omega), c1, e42, show (-1 : Int32) = zI (-1) from rfl, show (1 : Int32) = zI 1 from zI_lit 1, show (31 : Int32) = zI 31 from zI_lit 31, zI_add, zI_0]
        by_cases a : rd τ (p + 1) i = rd τ (p + 1) x
        · rw [if_pos (by rw [k1]; exact a)]
          exact ff ⟨fun q => (by cases q), fun q => absurd a q.1⟩
        · rw [if_neg (by rw [k1]; exact a), bnd_zI i0 (by omega) (by omega), c5]
          by_cases e : rd τ (p + 5) i = -1
          · rw [if_pos (by rw [k2]; exact e), hasM_sp ⟨i0, by omega⟩, cI_rI]
            cases c : gb (nrB τ p x) i with
            | true =>
              rw [bz_tt, if_neg (by decide)]
              exact ff ⟨fun q => (by cases q), fun q => by rw [q.2.2.1] at c; cases c⟩
            | false =>
              rw [bz_ff, if_pos rfl, gt1, cI_rI]
              cases b with
              | false =>
                rw [bz_ff, if_pos rfl]
                exact ff ⟨fun q => (by cases q), fun q => by have := gt2.mpr q.2.2.2; cases this⟩
              | true =>
                rw [bz_tt, if_neg (by decide)]
                exact tt ⟨fun _ => ⟨a, e, c, gt2.mp rfl⟩, fun _ => rfl⟩
          · rw [if_neg (by rw [k2]; exact e)]
            exact ff ⟨fun q => (by cases q), fun q => absurd q.2.1 e⟩
    obtain ⟨s', a1, a2⟩ := loop (rd τ p 0).toNat 0 (zI 0) (by omega) (by decide) fun y y0 y1 => by
      rw [gb_0]; exact ⟨fun q => absurd q Bool.false_ne_true, fun q => by omega⟩
    exact ⟨s', a1, fun y y0 y1 => (a2 y y0 y1).trans ⟨fun q => ⟨z, q⟩, fun q => q.2⟩⟩
  · rw [if_neg (by rw [dx]; exact z), zI_0]
    exact ⟨_, rfl, fun y y0 y1 => by
      rw [gb_0]; exact ⟨fun q => absurd q Bool.false_ne_true, fun q => absurd q.1 z⟩⟩
theorem SuS.fr {S : Nat → Nat → Bool} {σ τ : Sg} {r p : Nat} (K : Fr S σ τ) (h1 : ∀ a k, DRoll r p a k = true → S a k = false) (h2 : ∀ a k, DRule r a k = true → S a k = false) (h3 : ∀ k, S 76 k = false) {x : Int} {s : Int32} (h : SuS σ r p x s) : SuS τ r p x s := by
  have eR : ∀ a, (∀ k, DRule r a k = true) → rd τ a = rd σ a := fun a q => fr_row K fun k => h2 a k (q k)
  have eP : ∀ a, (∀ k, DRoll r p a k = true) → rd τ a = rd σ a := fun a q => fr_row K fun k => h1 a k (q k)
  have cP : ∀ a k, DRoll r p a k = true → τ.1 a k = σ.1 a k := fun a k q => K.2 _ _ (h1 a k q)
  have z1 : rd τ p 0 = rd σ p 0 := fr_rd K (h1 _ _ (by simp [DRoll]))
  have z2 : rd τ r 0 = rd σ r 0 := fr_rd K (h2 _ _ (by simp [DRule]))
  have e76 : ∀ k, τ.1 76 k = σ.1 76 k := fun k => K.2 _ _ (h3 k)
  unfold SuS SuP nrB at h ⊢
  rw [eR (r + 1) fun k => by simp [DRule], eR (r + 2) fun k => by simp [DRule], eP (p + 1) fun k => by simp [DRoll], eP (p + 3) fun k => by simp [DRoll], eP (p + 4) fun k => by simp [DRoll], eP (p + 5) fun k => by simp [DRoll], z1, z2, cP (p + 6) _ (by simp [DRoll]), cP (p + 7) _ (by simp [DRoll])]
  simp only [e76]
  exact h
theorem c_mayWed {σ : Sg} {r p l : Nat} (h : Inv r p l σ) (a : Int32) : Same (f_N_mayWed 100 a) (f_M_mayWed 100 a) σ := by
  obtain ⟨a, rfl, ha⟩ := zI_ex a
  obtain ⟨n1, n2, n3, n4⟩ := h.n
  have q3 : σ.2.2 4 3 = p := h.1.2.2.2.2.2.1
  have hP := h.1.2.1
  have hbt := h.bits
  have hro := h.2.2.2.1
  obtain ⟨m0, m24, ok⟩ := id hro.1
  have iN := has_sp (σ := σ) hP.s0 rfl ⟨m0, m24⟩ (d := 98) ha
  have iM := isPersonM_sp (σ := σ) (n := rd σ p 0) hro.2.1 ⟨m0, m24⟩ (d := 97) ha
  by_cases qa : ¬ (0 ≤ a ∧ a < rd σ p 0)
  · refine ⟨-1, σ, σ, r, p, l, ?_, ?_, h⟩
    · rw [f_N_mayWed_eq, q3, gdK_of hP.s0, iN, cI_rI, decide_eq_false qa, bz_ff, if_pos (by decide)]
    · rw [f_M_mayWed_eq, iM, cI_rI, decide_eq_false qa, bz_ff, if_pos (by decide)]
  obtain ⟨a0, a1⟩ := Classical.not_not.mp qa
  obtain ⟨s, s1, s2⟩ := suitable_sp (l := l) hro h.2.2.1 hP (d := 96) a0 a1
  obtain ⟨τ, t1, K, t2⟩ := laysMayBe_sp h (d := 90)
  have hτ := S154_scr h K
  have hr : r = 7 ∨ r = 12 := hbt.1
  have hp : p = 17 ∨ p = 25 := hbt.2.1
  have ep : rd τ p 0 = rd σ p 0 := fr_rd K (by rcases hbt.2.1 with rfl | rfl <;> rfl)
  obtain ⟨u, u1, u2⟩ := whoMayWed_sp hτ.2.2.2.1 hτ.2.2.1 hP (fun y y0 y1 => by rw [ep] at y1; rw [t2 y y0 y1, K.2 76 _ rfl]) (d := 94) a0 (by rw [ep]; exact a1)
  have su : s = u := (s2.fr K (by intro a k; simp [DRoll, S154, S152]; omega) (by intro a k; simp [DRule, S154, S152]; omega) (fun _ => rfl)).eq u2
  refine ⟨s, σ, τ, r, p, l, ?_, ?_, hτ⟩
  · rw [f_N_mayWed_eq, q3, gdK_of hP.s0, iN, cI_rI, decide_eq_true ⟨a0, a1⟩, bz_tt, if_neg (by decide), n1, q3, s1, cI_rI]
  · rw [f_M_mayWed_eq, iM, cI_rI, decide_eq_true ⟨a0, a1⟩, bz_tt, if_neg (by decide), t1, cV_rV, u1, cI_rI, su]
