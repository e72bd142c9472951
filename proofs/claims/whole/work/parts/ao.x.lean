/-! THE LAW'S LOOP -/
theorem stepI {f g : Sg → Rs} {σ : Sg} (h : Same f g σ) (K : Sg → Rs) : ∃ (σ' : Sg) (r p l : Nat), (cI (f σ) fun v2 σ1 => cI (g σ1) fun v4 σ3 => if v2 = v4 then (K σ3) else (rZ 0 σ3)) = K σ' ∧ Inv r p l σ' := by
  obtain ⟨v, σ1, σ2, r, p, l, e1, e2, hi⟩ := h
  exact ⟨σ2, r, p, l, by rw [e1, cI_rI, e2, cI_rI, if_pos rfl], hi⟩
theorem lcmp_same (v : Int64) : lg_cmp v v = 0 := by
  unfold lg_cmp
  rw [if_neg (Int64.lt_irrefl), if_pos rfl]
theorem stepJ {f g : Sg → Rs} {σ : Sg} (h : SameJ f g σ) (K : Sg → Rs) : ∃ (σ' : Sg) (r p l : Nat), (cJ (f σ) fun v2 σ1 => cJ (g σ1) fun v4 σ3 => if (lg_cmp v2 v4) = 0 then (K σ3) else (rZ 0 σ3)) = K σ' ∧ Inv r p l σ' := by
  obtain ⟨v, σ1, σ2, r, p, l, e1, e2, hi⟩ := h
  exact ⟨σ2, r, p, l, by rw [e1, cJ_rJ, e2, cJ_rJ, if_pos (lcmp_same v)], hi⟩
theorem law_step {L : Nat} (hL : L ≤ 3072) (xs : Nat → Int32) {i : Int} (i0 : 0 ≤ i) (i6 : i + 6 ≤ L) {σ : Sg} {r p l : Nat} (h : Inv r p l σ) : ∃ (σ' : Sg) (r' p' l' : Nat), f_L_18 L xs 100 (zI i) σ = f_L_18 L xs 100 (zI (i + 6)) σ' ∧ Inv r' p' l' σ' := by
  have e1 : zI i + 1 = zI (i + 1) := by rw [show (1 : Int32) = zI 1 from zI_lit 1, zI_add]
  have e2 : zI i + 2 = zI (i + 2) := by rw [show (2 : Int32) = zI 2 from zI_lit 2, zI_add]
  have e3 : zI i + 3 = zI (i + 3) := by rw [show (3 : Int32) = zI 3 from zI_lit 3, zI_add]
  have e4 : zI i + 4 = zI (i + 4) := by rw [show (4 : Int32) = zI 4 from zI_lit 4, zI_add]
  have e5 : zI i + 5 = zI (i + 5) := by rw [show (5 : Int32) = zI 5 from zI_lit 5, zI_add]
  have e6 : zI i + 6 = zI (i + 6) := by rw [show (6 : Int32) = zI 6 from zI_lit 6, zI_add]
  have b0 : ∀ X : Rs, bnd (zI i) L X = X := fun X => bnd_zI i0 (by omega) (by omega)
  have b1 : ∀ X : Rs, bnd (zI (i + 1)) L X = X := fun X => bnd_zI (by omega) (by omega) (by omega)
  have b2 : ∀ X : Rs, bnd (zI (i + 2)) L X = X := fun X => bnd_zI (by omega) (by omega) (by omega)
  have b3 : ∀ X : Rs, bnd (zI (i + 3)) L X = X := fun X => bnd_zI (by omega) (by omega) (by omega)
  have b4 : ∀ X : Rs, bnd (zI (i + 4)) L X = X := fun X => bnd_zI (by omega) (by omega) (by omega)
  have b5 : ∀ X : Rs, bnd (zI (i + 5)) L X = X := fun X => bnd_zI (by omega) (by omega) (by omega)
  rw [f_L_18_eq, zI_ofNat, show (6 : Int32) = zI 6 from zI_lit 6, zI_sub, ifLe (by omega) (by omega), if_neg (by omega), b0]
  generalize xs (ix (zI i)) &&& 31 = w
  rw [← show (6 : Int32) = zI 6 from zI_lit 6]
  by_cases h0 : w = 0
  · rw [if_pos h0, f_L_172_eq]
    simp only [e1, b1, e2, b2, e3, b3, e4, b4, e6]
    exact stepI (c_people h _ _ _ _) (fun τ => f_L_18 L xs 100 (zI (i + 6)) τ)
  rw [if_neg h0]
  by_cases h1 : w = 1
  · rw [if_pos h1, f_L_225_eq]
    simp only [e1, b1, e2, b2, e3, b3, e4, b4, e5, b5, e6]
    exact stepI (c_feed h _ _ _ _ _) (fun τ => f_L_18 L xs 100 (zI (i + 6)) τ)
  rw [if_neg h1]
  by_cases h2 : w = 2
  · rw [if_pos h2, f_L_288_eq]
    simp only [e1, b1, e6]
    exact stepI (c_law h _) (fun τ => f_L_18 L xs 100 (zI (i + 6)) τ)
  rw [if_neg h2]
  by_cases h3 : w = 3
  · rw [if_pos h3, f_L_311_eq]
    simp only [e1, b1, e6]
    exact stepI (c_rule h _) (fun τ => f_L_18 L xs 100 (zI (i + 6)) τ)
  rw [if_neg h3]
  by_cases h4 : w = 4
  · rw [if_pos h4, f_L_334_eq]
    simp only [e1, b1, e6]
    exact stepI (c_roll h _) (fun τ => f_L_18 L xs 100 (zI (i + 6)) τ)
  rw [if_neg h4]
  by_cases h5 : w = 5
  · rw [if_pos h5, f_L_357_eq]
    simp only [e1, b1, e2, b2, e3, b3, e6]
    exact stepI (c_kin h _ _ _) (fun τ => f_L_18 L xs 100 (zI (i + 6)) τ)
  rw [if_neg h5]
  by_cases h6 : w = 6
  · rw [if_pos h6, f_L_400_eq]
    simp only [e1, b1, e2, b2, e3, b3, e6]
    exact stepI (c_alike h _ _ _) (fun τ => f_L_18 L xs 100 (zI (i + 6)) τ)
  rw [if_neg h6]
  by_cases h7 : w = 7
  · rw [if_pos h7, f_L_443_eq]
    simp only [e1, b1, e6]
    exact stepI (c_ways h _) (fun τ => f_L_18 L xs 100 (zI (i + 6)) τ)
  rw [if_neg h7]
  by_cases h8 : w = 8
  · rw [if_pos h8, f_L_466_eq]
    simp only [e1, b1, e2, b2, e3, b3, e4, b4, e5, b5, e6]
    exact stepI (c_term h _ _ _ _ _) (fun τ => f_L_18 L xs 100 (zI (i + 6)) τ)
  rw [if_neg h8]
  by_cases h9 : w = 9
  · rw [if_pos h9, f_L_529_eq]
    simp only [e1, b1, e6]
    exact stepI (c_cousin h _) (fun τ => f_L_18 L xs 100 (zI (i + 6)) τ)
  rw [if_neg h9]
  by_cases h10 : w = 10
  · rw [if_pos h10, f_L_552_eq]
    simp only [e1, b1, e2, b2, e3, b3, e4, b4, e5, b5, e6]
    exact stepJ (c_words h _ _ _ _ _) (fun τ => f_L_18 L xs 100 (zI (i + 6)) τ)
  rw [if_neg h10]
  by_cases h11 : w = 11
  · rw [if_pos h11, f_L_616_eq]
    simp only [e1, b1, e2, b2, e3, b3, e6]
    exact stepI (c_allRules h _ _ _) (fun τ => f_L_18 L xs 100 (zI (i + 6)) τ)
  rw [if_neg h11]
  by_cases h12 : w = 12
  · rw [if_pos h12, f_L_659_eq]
    simp only [e1, b1, e2, b2, e6]
    exact stepI (c_personIs h _ _) (fun τ => f_L_18 L xs 100 (zI (i + 6)) τ)
  rw [if_neg h12]
  by_cases h13 : w = 13
  · rw [if_pos h13, f_L_692_eq]
    simp only [e1, b1, e6]
    exact stepI (c_houses h _) (fun τ => f_L_18 L xs 100 (zI (i + 6)) τ)
  rw [if_neg h13]
  by_cases h14 : w = 14
  · rw [if_pos h14, f_L_715_eq]
    simp only [e1, b1, e6]
    exact stepI (c_mended h _) (fun τ => f_L_18 L xs 100 (zI (i + 6)) τ)
  rw [if_neg h14]
  by_cases h15 : w = 15
  · rw [if_pos h15, f_L_738_eq]
    simp only [e1, b1, e6]
    exact stepI (c_byTold h _) (fun τ => f_L_18 L xs 100 (zI (i + 6)) τ)
  rw [if_neg h15]
  by_cases h16 : w = 16
  · rw [if_pos h16, f_L_761_eq]
    simp only [e1, b1, e2, b2, e3, b3, e6]
    exact stepI (c_whatIs h _ _ _) (fun τ => f_L_18 L xs 100 (zI (i + 6)) τ)
  rw [if_neg h16]
  by_cases h17 : w = 17
  · rw [if_pos h17, f_L_804_eq]
    simp only [e1, b1, e2, b2, e6]
    exact stepI (c_those h _ _) (fun τ => f_L_18 L xs 100 (zI (i + 6)) τ)
  rw [if_neg h17]
  by_cases h18 : w = 18
  · rw [if_pos h18, f_L_837_eq]
    simp only [e1, b1, e6]
    exact stepI (c_mayWed h _) (fun τ => f_L_18 L xs 100 (zI (i + 6)) τ)
  rw [if_neg h18]
  by_cases h19 : w = 19
  · rw [if_pos h19, f_L_860_eq]
    simp only [e6]
    exact stepI (c_weddings h) (fun τ => f_L_18 L xs 100 (zI (i + 6)) τ)
  rw [if_neg h19]
  by_cases h20 : w = 20
  · rw [if_pos h20, f_L_873_eq]
    simp only [e1, b1, e2, b2, e6]
    exact stepI (c_line h _ _) (fun τ => f_L_18 L xs 100 (zI (i + 6)) τ)
  rw [if_neg h20]
  by_cases h21 : w = 21
  · rw [if_pos h21, f_L_906_eq]
    simp only [e1, b1, e6]
    exact stepI (c_years h _) (fun τ => f_L_18 L xs 100 (zI (i + 6)) τ)
  rw [if_neg h21]
  by_cases h22 : w = 22
  · rw [if_pos h22, f_L_929_eq]
    simp only [e1, b1, e2, b2, e6]
    exact stepI (c_tried h _ _) (fun τ => f_L_18 L xs 100 (zI (i + 6)) τ)
  rw [if_neg h22]
  by_cases h23 : w = 23
  · rw [if_pos h23, f_L_962_eq]
    simp only [e1, b1, e2, b2, e6]
    exact stepI (c_nameIs h _ _) (fun τ => f_L_18 L xs 100 (zI (i + 6)) τ)
  rw [if_neg h23]
  by_cases h24 : w = 24
  · rw [if_pos h24, f_L_995_eq]
    simp only [e1, b1, e2, b2, e6]
    exact stepI (c_diesOut h _ _) (fun τ => f_L_18 L xs 100 (zI (i + 6)) τ)
  rw [if_neg h24]
  by_cases h25 : w = 25
  · rw [if_pos h25, f_L_1028_eq]
    simp only [e1, b1, e6]
    exact stepI (c_left h _) (fun τ => f_L_18 L xs 100 (zI (i + 6)) τ)
  rw [if_neg h25]
  by_cases h26 : w = 26
  · rw [if_pos h26, f_L_1051_eq]
    simp only [e1, b1, e6]
    exact stepI (c_seed h _) (fun τ => f_L_18 L xs 100 (zI (i + 6)) τ)
  rw [if_neg h26]
  by_cases h27 : w = 27
  · rw [if_pos h27, f_L_1074_eq]
    simp only [e6]
    exact stepI (c_keep h) (fun τ => f_L_18 L xs 100 (zI (i + 6)) τ)
  rw [if_neg h27]
  by_cases h28 : w = 28
  · rw [if_pos h28, f_L_1087_eq]
    simp only [e6]
    exact stepI (c_undo h) (fun τ => f_L_18 L xs 100 (zI (i + 6)) τ)
  rw [if_neg h28]
  by_cases h29 : w = 29
  · rw [if_pos h29, f_L_1100_eq]
    simp only [e1, b1, e6]
    exact stepI (c_check h _) (fun τ => f_L_18 L xs 100 (zI (i + 6)) τ)
  rw [if_neg h29]
  by_cases h30 : w = 30
  · rw [if_pos h30, f_L_1123_eq]
    simp only [e1, b1, e6]
    exact stepI (c_count h _) (fun τ => f_L_18 L xs 100 (zI (i + 6)) τ)
  rw [if_neg h30]
  exact ⟨σ, r, p, l, by rw [e6], h⟩
theorem law_loop {L : Nat} (hL : L ≤ 3072) (xs : Nat → Int32) : ∀ (b : Nat) (i : Int) (σ : Sg) (r p l : Nat), (L : Int) + 6 - i ≤ b → 0 ≤ i → i ≤ L + 6 → Inv r p l σ → ∃ σ' : Sg, f_L_18 L xs 100 (zI i) σ = some (some (.int 1), σ') := by
  intro b
  have fin : ∀ (i : Int) (σ : Sg), 0 ≤ i → i ≤ L + 6 → ¬ i + 6 ≤ L → ∃ σ' : Sg, f_L_18 L xs 100 (zI i) σ = some (some (.int 1), σ') := fun i σ i0 i1 z => by
    refine ⟨σ, ?_⟩
    rw [f_L_18_eq, zI_ofNat, show (6 : Int32) = zI 6 from zI_lit 6, zI_sub, ifLe (by omega) (by omega), if_pos (by omega)]
    rfl
  induction b with
  | zero =>
    intro i σ r p l hb i0 i1 h
    exact fin i σ i0 i1 (by omega)
  | succ b ih =>
    intro i σ r p l hb i0 i1 h
    by_cases z : i + 6 ≤ L
    · obtain ⟨σ1, r', p', l', e, h'⟩ := law_step hL xs i0 z h
      rw [e]
      exact ih (i + 6) σ1 r' p' l' (by omega) (by omega) (by omega) h'
    · exact fin i σ i0 i1 z
