def S153 (a _k : Nat) : Bool := a == 153
theorem S153_D {r p : Nat} (hr : isR r) (hp : isP p) : ∀ a k, DRoll r p a k = true → S153 a k = false := by
  intro a k h
  unfold S153
  rw [beq_eq_false_iff_ne]
  rintro rfl
  rcases hr with rfl | rfl <;> rcases hp with rfl | rfl <;> simp [DRoll] at h
theorem atLevel_sp {σ : Sg} {m : Int} (em : rd σ 102 69 = m) (m0 : 0 ≤ m) (m24 : m ≤ 24) {d : Nat} {k : Int} (hk : -2147483648 ≤ k ∧ k < 2147483648) : ∃ s, f_M_atLevel (d + 1) (zI k) σ = rI s σ ∧ ∀ y, 0 ≤ y → y < 32 → (gb s y = true ↔ y < m ∧ rd σ 153 y = k) := by
  have e9 : σ.1 102 69 = zI m := (rd_k σ 102 69).trans (congrArg zI em)
  rw [f_M_atLevel_eq, zI_0]
  obtain ⟨s, e, h⟩ := setloop (n := m) (F := fun i s => f_M_atLevel_4 d (zI k) s (zI i) σ) (P := fun i => decide (rd σ 153 i = k)) (σ := σ) (fun i s i0 i1 => by
    have c : (σ.1 153 i.toNat = zI k) = (rd σ 153 i = k) := by
      rw [rd_k, toNat_c i0]; exact zI_eq ⟨rd_lo _ _ _, rd_hi _ _ _⟩ hk
    show f_M_atLevel_4 d (zI k) s (zI i) σ = f_M_atLevel_4 d (zI k) _ (zI (i + 1)) σ
    rw [f_M_atLevel_4_eq, e9, if_pos (by rw [zI_le (by omega) (by omega)]; exact i1), bnd_zI (by omega) (by omega) (by omega), ix_zI (by omega) (by omega), show (1 : Int32) = zI 1 from zI_lit 1, show (31 : Int32) = zI 31 from zI_lit 31, zI_add]
    by_cases q : rd σ 153 i = k
    · rw [if_pos (c.mpr q), if_pos (decide_eq_true q)]
    · rw [if_neg (fun z => q (c.mp z)), if_neg (by rw [decide_eq_false q]; exact Bool.noConfusion)]) (fun s => by
    show f_M_atLevel_4 d (zI k) s (zI m) σ = _
    rw [f_M_atLevel_4_eq, e9, if_neg Int32.lt_irrefl]) m0 (by omega)
  refine ⟨s, e, fun y y0 y1 => ?_⟩
  rw [h y y0 y1, Bool.and_eq_true, decide_eq_true_iff, decide_eq_true_iff]
theorem and_zero {s t : Int32} : (s &&& t = zI 0) ↔ ∀ y, 0 ≤ y → y < 32 → ¬ (gb s y = true ∧ gb t y = true) := by
  constructor
  · intro h y y0 y1 g
    have := congrArg (fun z => gb z y) h
    simp only [gb_and, gb_0, g.1, g.2, Bool.and_self] at this
    cases this
  · intro h
    refine gb_ext fun y y0 y1 => ?_
    rw [gb_and, gb_0]
    cases a : gb s y <;> cases b : gb t y <;> first | rfl | exact absurd ⟨a, b⟩ (h y y0 y1)
/-- levels below K are laid -/
def LV (m : Int) (f : Int → Int → Int32) (q K : Int) (c : Int → Int) : Prop := ∀ y, 0 ≤ y → y < m → (∃ j : Nat, (j : Int) < K ∧ lyr m f q j y ∧ c y = j) ∨ ((∀ j : Nat, (j : Int) < K → ¬ lyr m f q j y) ∧ c y = 1000000)
/-- while level K is laid: up to the t-th pair -/
def LW (m : Int) (f : Int → Int → Int32) (q K t : Int) (c : Int → Int) : Prop := ∀ y, 0 ≤ y → y < m → (∃ j : Nat, (j : Int) < K ∧ lyr m f q j y ∧ c y = j) ∨ ((∀ j : Nat, (j : Int) < K → ¬ lyr m f q j y) ∧
  ((c y = K ∧ ∃ k z, 0 ≤ k ∧ k < 8 ∧ 8 * y + k < t ∧ gb (f k y) z = true ∧ 0 ≤ z ∧ z < m ∧ lyr m f q (K - 1).toNat z) ∨
   (c y = 1000000 ∧ ∀ k z, 0 ≤ k → k < 8 → 8 * y + k < t → 0 ≤ z → z < m → gb (f k y) z = true → ¬ lyr m f q (K - 1).toNat z)))
theorem LW_LV {m : Int} {f : Int → Int → Int32} {q K : Int} {c : Int → Int} (q0 : 0 ≤ q) (q1 : q < m) (K1 : 1 ≤ K) (sy : ∀ x y, 0 ≤ x → x < m → 0 ≤ y → y < m → adj f x y → adj f y x) (h : LW m f q K (8 * m) c) : LV m f q (K + 1) c := by
  intro y y0 y1
  have eK : K.toNat = (K - 1).toNat + 1 := by omega
  have nx := lyr_next (m := m) (f := f) (q := q) (i := (K - 1).toNat) y0 y1
  rcases h y y0 y1 with ⟨j, j1, jl, jc⟩ | ⟨no, ⟨c1, k, z, k0, k1, kt, g, z0, z1, zl⟩ | ⟨c1, nn⟩⟩
  · exact Or.inl ⟨j, by omega, jl, jc⟩
  · refine Or.inl ⟨K.toNat, by omega, ?_, by omega⟩
    rw [eK]
    refine nx.mpr ⟨⟨z, zl, sy y z y0 y1 z0 z1 ⟨k, k0, k1, g⟩⟩, fun b => ?_⟩
    obtain ⟨j, ji, jl⟩ := ball_lyr b
    exact no j (by omega) jl
  · refine Or.inr ⟨fun j hj hl => ?_, c1⟩
    by_cases e : (j : Int) = K
    · have ej : j = (K - 1).toNat + 1 := by omega
      rw [ej] at hl
      obtain ⟨⟨z, zl, a⟩, -⟩ := nx.mp hl
      have zr := ball_rng q0 q1 (lyr_ball zl)
      obtain ⟨k, k0, k1, g⟩ := sy z y zr.1 zr.2 y0 y1 a
      exact nn k z k0 k1 (by omega) zr.1 zr.2 g zl
    · exact no j (by omega) hl
theorem laysLevels_sp {σ : Sg} {r p : Nat} (h : IRoll r p σ) (hr : isR r) (hp : isP p) (n6 : rd σ r 0 ≤ 6) {d : Nat} {q : Int} (q0 : 0 ≤ q) (q1 : q < rd σ p 0) : ∃ σ', f_M_laysLevels (d + 3) (zI q) σ = rV σ' ∧ Fr S153 σ σ' ∧ LV (rd σ p 0) (relF σ p) q 24 (rd σ' 153) := by
  obtain ⟨m0, m24, -⟩ := id h.1
  have em := h.2.1
  have sy := fun x y x0 x1 y0 y1 => adj_symm h n6 (x := x) (y := y) x0 x1 y0 y1
  have rb := fun k x y x0 x1 y0 y1 => relF_bd h n6 (k := k) (x := x) (y := y) x0 x1 y0 y1
  generalize hf : relF σ p = f at *
  generalize hm : rd σ p 0 = m at *
  -- one level
  have lev1 : ∀ (k : Nat) (t : Int) (K : Int) (σ1 : Sg) (x1 x4 : Value), t + k = 8 * m → 0 ≤ t → 1 ≤ K → K < 24 → Fr S153 σ σ1 → LW m f q K t (rd σ1 153) → ∃ σ2 y1 y3 y4, f_M_laysLevels_44 (d + 2) x1 (zI K) (zI t) x4 σ1 = f_M_laysLevels_36 (d + 2) y1 (zI (K + 1)) y3 y4 σ2 ∧ Fr S153 σ σ2 ∧ LW m f q K (8 * m) (rd σ2 153) := by
    intro k
    induction k with
    | zero =>
      intro t K σ1 x1 x4 ht t0 K1 K24 F1 hW
      have e9 : σ1.1 102 69 = zI m := (F1.2 _ _ rfl).trans ((rd_k σ 102 69).trans (congrArg zI em))
      refine ⟨σ1, nlg x1, .int (zI t), x4, ?_, F1, by rw [← show t = 8 * m by omega]; exact hW⟩
      rw [f_M_laysLevels_44_eq, e9, show (8 : Int32) = zI 8 from zI_lit 8, zI_mul, if_neg (by rw [zI_le (by omega) (by omega)]; omega), show (1 : Int32) = zI 1 from zI_lit 1, zI_add]
    | succ k ih =>
      intro t K σ1 x1 x4 ht t0 K1 K24 F1 hW
      have e9 : σ1.1 102 69 = zI m := (F1.2 _ _ rfl).trans ((rd_k σ 102 69).trans (congrArg zI em))
      have e9' : rd σ1 102 69 = m := (fr_rd F1 rfl).trans em
      obtain ⟨x, hx⟩ : ∃ x, x = t / 8 := ⟨_, rfl⟩
      obtain ⟨j, hj⟩ : ∃ j, j = t % 8 := ⟨_, rfl⟩
      have x0 : 0 ≤ x := by omega
      have x1' : x < m := by omega
      have j0 : 0 ≤ j := by omega
      have j1 : j < 8 := by omega
      have tx : t = 8 * x + j := by omega
      have c6 : (σ1.1 153 x.toNat = 1000000) = (rd σ1 153 x = 1000000) := by
        rw [rd_k, toNat_c x0, show (1000000 : Int32) = zI 1000000 from zI_lit 1000000]; exact zI_eq ⟨rd_lo _ _ _, rd_hi _ _ _⟩ (by decide)
      have st : f_M_laysLevels_44 (d + 2) x1 (zI K) (zI t) x4 σ1 = (if rd σ1 153 x = 1000000 then (rmI (zI t) (zI 8) fun v2 => cI (f_M_thoseOf (d + 2) (zI x) v2 σ1) fun v4 σ3 => cI (f_M_atLevel (d + 2) (zI K - 1) σ3) fun v6 σ5 => if (v4 &&& v6) = 0 then f_M_laysLevels_44 (d + 2) x1 (zI K) (zI t + 1) (.int (zI x)) σ5 else bnd (zI x) 24 (f_M_laysLevels_44 (d + 2) x1 (zI K) (zI t + 1) (.int (zI x)) (sI σ5 153 (ix (zI x)) (zI K)))) else f_M_laysLevels_44 (d + 2) x1 (zI K) (zI (t + 1)) (.int (zI x)) σ1) := by
        rw [f_M_laysLevels_44_eq, e9, show (8 : Int32) = zI 8 from zI_lit 8, zI_mul, if_pos (by rw [zI_le (by omega) (by omega)]; omega), dvI_nn (by omega) (by omega) (by decide) (by decide), ← hx, bnd_zI (by omega) (by omega) (by omega), ix_zI (by omega) (by omega), show zI t + 1 = zI (t + 1) by rw [zI_lit, zI_add]]
        by_cases z : rd σ1 153 x = 1000000
        · rw [if_pos (c6.mpr z), if_pos z]
        · rw [if_neg (fun y => z (c6.mp y)), if_neg z]
      -- when nothing is written
      have stay : (rd σ1 153 x ≠ 1000000 ∨ ∀ z, 0 ≤ z → z < m → gb (f j x) z = true → ¬ lyr m f q (K - 1).toNat z) → LW m f q K (t + 1) (rd σ1 153) := fun hh y y0 y1 => by
        rcases hW y y0 y1 with a | ⟨no, ⟨c1, k, z, k0, k1, kt, rest⟩ | ⟨c1, nn⟩⟩
        · exact Or.inl a
        · exact Or.inr ⟨no, Or.inl ⟨c1, k, z, k0, k1, by omega, rest⟩⟩
        · refine Or.inr ⟨no, Or.inr ⟨c1, fun k z k0 k1 kt z0 z1 g => ?_⟩⟩
          by_cases e : 8 * y + k < t
          · exact nn k z k0 k1 e z0 z1 g
          · have ey : y = x := by omega
            have ek : k = j := by omega
            subst ey ek
            rcases hh with hh | hh
            · exact absurd c1 hh
            · exact hh z z0 z1 g
      rw [st]
      by_cases c : rd σ1 153 x = 1000000
      · have ir : IRoll r p σ1 := h.fr F1 (S153_D hr hp)
        have er : relF σ1 p = f := (relF_fr F1 (S153_D hr hp)).trans hf
        have em1 : rd σ1 p 0 = m := hm ▸ fr_rd F1 (S153_D hr hp _ _ (by simp [DRoll]))
        have en : rd σ1 r 0 ≤ 6 := by rw [fr_rd F1 (S153_D hr hp _ _ (by simp [DRoll]))]; exact n6
        have et := thoseOf_sp ir en (d := d) (x := x) j0 j1 x0 (by omega)
        obtain ⟨A, eA, hA⟩ := atLevel_sp e9' m0 m24 (d := d + 1) (k := K - 1) (by omega)
        rw [er] at et
        have lA : ∀ y, 0 ≤ y → y < m → (rd σ1 153 y = K - 1 ↔ lyr m f q (K - 1).toNat y) := fun y y0 y1 => by
          rcases hW y y0 y1 with ⟨i, i1, il, ic⟩ | ⟨no, ⟨c1, -⟩ | ⟨c1, -⟩⟩
          · constructor
            · intro e
              have : (K - 1).toNat = i := by omega
              rw [this]; exact il
            · intro e
              have := lyr_one il e
              omega
          · exact ⟨fun e => by omega, fun e => absurd e (no _ (by omega))⟩
          · exact ⟨fun e => by omega, fun e => absurd e (no _ (by omega))⟩
        have hit : (f j x &&& A = zI 0) ↔ ∀ z, 0 ≤ z → z < m → gb (f j x) z = true → ¬ lyr m f q (K - 1).toNat z := by
          rw [and_zero]
          constructor
          · intro g z z0 z1 g1 g2
            exact g z z0 (by omega) ⟨g1, (hA z z0 (by omega)).mpr ⟨z1, (lA z z0 z1).mpr g2⟩⟩
          · rintro g z z0 z1 ⟨g1, g2⟩
            obtain ⟨z2, g3⟩ := (hA z z0 z1).mp g2
            exact g z z0 z2 g1 ((lA z z0 z2).mp g3)
        rw [if_pos c, rmI_nn (by omega) (by omega) (by decide) (by decide), ← hj, et, cI_rI, show (1 : Int32) = zI 1 from zI_lit 1, zI_sub, eA, cI_rI, zI_add, zI_0]
        by_cases z : f j x &&& A = zI 0
        · rw [if_pos z]
          exact ih (t + 1) K σ1 x1 _ (by omega) (by omega) K1 K24 F1 (stay (Or.inr (hit.mp z)))
        · rw [if_neg z, bnd_zI (by omega) (by omega) (by omega), ix_zI (by omega) (by omega)]
          have hz : ∃ z, 0 ≤ z ∧ z < m ∧ gb (f j x) z = true ∧ lyr m f q (K - 1).toNat z := Classical.byContradiction fun nn => z (hit.mpr fun z z0 z1 g1 g2 => nn ⟨z, z0, z1, g1, g2⟩)
          obtain ⟨w, z0, z1, g1, g2⟩ := hz
          refine ih (t + 1) K _ x1 _ (by omega) (by omega) K1 K24 (F1.sI _ rfl) fun y y0 y1 => ?_
          by_cases e : y = x
          · subst e
            rw [rd_same rfl (by omega) (by omega)]
            rcases hW y y0 y1 with ⟨i, i1, il, ic⟩ | ⟨no, -⟩
            · omega
            · exact Or.inr ⟨no, Or.inl ⟨rfl, j, w, j0, j1, by omega, g1, z0, z1, g2⟩⟩
          · rw [rd_other (Or.inr (by omega))]
            rcases hW y y0 y1 with a | ⟨no, ⟨c1, k, z, k0, k1, kt, rest⟩ | ⟨c1, nn⟩⟩
            · exact Or.inl a
            · exact Or.inr ⟨no, Or.inl ⟨c1, k, z, k0, k1, by omega, rest⟩⟩
            · exact Or.inr ⟨no, Or.inr ⟨c1, fun k z k0 k1 kt z0 z1 g => nn k z k0 k1 (by omega) z0 z1 g⟩⟩
      · rw [if_neg c]
        exact ih (t + 1) K σ1 x1 _ (by omega) (by omega) K1 K24 F1 (stay (Or.inl c))
  -- all levels
  have levs : ∀ (k : Nat) (K : Int) (σ1 : Sg) (x1 x3 x4 : Value), K + k = 24 → 1 ≤ K → Fr S153 σ σ1 → LV m f q K (rd σ1 153) → ∃ σ2, f_M_laysLevels_36 (d + 2) x1 (zI K) x3 x4 σ1 = rV σ2 ∧ Fr S153 σ σ2 ∧ LV m f q 24 (rd σ2 153) := by
    intro k
    induction k with
    | zero =>
      intro K σ1 x1 x3 x4 hK K1 F1 hV
      refine ⟨σ1, ?_, F1, by rw [← show K = 24 by omega]; exact hV⟩
      rw [f_M_laysLevels_36_eq, show (24 : Int32) = zI 24 from zI_lit 24, if_neg (by rw [zI_le (by omega) (by omega)]; omega)]
    | succ k ih =>
      intro K σ1 x1 x3 x4 hK K1 F1 hV
      have hW : LW m f q K 0 (rd σ1 153) := fun y y0 y1 => by
        rcases hV y y0 y1 with a | ⟨no, c1⟩
        · exact Or.inl a
        · exact Or.inr ⟨no, Or.inr ⟨c1, fun k z k0 k1 kt => by omega⟩⟩
      obtain ⟨σ2, y1, y3, y4, e, F2, hW2⟩ := lev1 (8 * m).toNat 0 K σ1 x1 x4 (by omega) (by decide) K1 (by omega) F1 hW
      obtain ⟨σ3, e3, F3, hV3⟩ := ih (K + 1) σ2 y1 y3 y4 (by omega) (by omega) F2 (LW_LV q0 q1 K1 sy hW2)
      refine ⟨σ3, ?_, F3, hV3⟩
      rw [f_M_laysLevels_36_eq, show (24 : Int32) = zI 24 from zI_lit 24, if_pos (by rw [zI_le (by omega) (by omega)]; omega), zI_0, e, e3]
  -- the first
  have first : ∀ (k : Nat) (i : Int) (σ1 : Sg) (x3 x4 : Value), i + k = m → 0 ≤ i → Fr S153 σ σ1 → (∀ y, 0 ≤ y → y < i → rd σ1 153 y = if y = q then 0 else 1000000) → ∃ σ2, f_M_laysLevels_2 (d + 2) (zI q) (zI i) x3 x4 σ1 = rV σ2 ∧ Fr S153 σ σ2 ∧ LV m f q 24 (rd σ2 153) := by
    intro k
    induction k with
    | zero =>
      intro i σ1 x3 x4 hi i0 F1 hc
      have e9 : σ1.1 102 69 = zI m := (F1.2 _ _ rfl).trans ((rd_k σ 102 69).trans (congrArg zI em))
      rw [f_M_laysLevels_2_eq, e9, if_neg (by rw [zI_le (by omega) (by omega)]; omega), show (1 : Int32) = zI 1 from zI_lit 1]
      refine levs 23 1 σ1 _ _ _ rfl (by decide) F1 fun y y0 y1 => ?_
      have c := hc y y0 (by omega)
      by_cases e : y = q
      · rw [if_pos e] at c; exact Or.inl ⟨0, by decide, e, c⟩
      · rw [if_neg e] at c
        refine Or.inr ⟨fun j hj hl => ?_, c⟩
        have : j = 0 := by omega
        subst this
        exact e hl
    | succ k ih =>
      intro i σ1 x3 x4 hi i0 F1 hc
      have e9 : σ1.1 102 69 = zI m := (F1.2 _ _ rfl).trans ((rd_k σ 102 69).trans (congrArg zI em))
      have cx : (zI i = zI q) = (i = q) := zI_eq (by omega) (by omega)
      have stp : f_M_laysLevels_2 (d + 2) (zI q) (zI i) x3 x4 σ1 = f_M_laysLevels_2 (d + 2) (zI q) (zI (i + 1)) x3 x4 (sI σ1 153 i.toNat (zI (if i = q then 0 else 1000000))) := by
        rw [f_M_laysLevels_2_eq, e9, if_pos (by rw [zI_le (by omega) (by omega)]; omega), show (1 : Int32) = zI 1 from zI_lit 1, zI_add, show (1000000 : Int32) = zI 1000000 from zI_lit 1000000, zI_0]
        by_cases e : i = q
        · rw [if_pos (cx.mpr e), bnd_zI (by omega) (by omega) (by omega), ix_zI (by omega) (by omega), if_pos e]
        · rw [if_neg (fun z => e (cx.mp z)), bnd_zI (by omega) (by omega) (by omega), ix_zI (by omega) (by omega), if_neg e]
      rw [stp]
      refine ih (i + 1) _ x3 x4 (by omega) (by omega) (F1.sI _ rfl) fun y y0 y1 => ?_
      by_cases e : y = i
      · subst e; exact rd_same rfl (by split <;> decide) (by split <;> decide)
      · rw [rd_other (Or.inr (by omega))]; exact hc y y0 (by omega)
  rw [f_M_laysLevels_eq, zI_0]
  exact first m.toNat 0 σ .null .null (by omega) (by decide) (Fr.rf _ _) fun y y0 y1 => by omega
