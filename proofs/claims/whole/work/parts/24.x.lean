/-! small functions -/
def bz (b : Bool) : Int32 := if b = true then zI 1 else zI 0
theorem bz_t {p : Prop} [Decidable p] (h : p) : zI 1 = bz (decide p) := by unfold bz; rw [if_pos (decide_eq_true h)]
theorem bz_f {p : Prop} [Decidable p] (h : ¬p) : zI 0 = bz (decide p) := by unfold bz; rw [if_neg (by rw [decide_eq_false h]; exact Bool.false_ne_true)]
theorem bz_tt : bz true = zI 1 := rfl
theorem bz_ff : bz false = zI 0 := rfl
theorem bz_0 (b : Bool) : (bz b = zI 0) = (b = false) := by cases b <;> simp only [bz_tt, bz_ff, eq_self, reduceCtorEq] ; rw [zI_inj (by decide) (by decide) (by decide) (by decide)]; simp
theorem bz_1 (b : Bool) : (bz b = zI 1) = (b = true) := by cases b <;> simp only [bz_tt, bz_ff, eq_self, reduceCtorEq] ; rw [zI_inj (by decide) (by decide) (by decide) (by decide)]; simp
theorem bz_inj {a b : Bool} : (bz a = bz b) = (a = b) := by cases a <;> cases b <;> simp [bz_tt, bz_ff, zI_inj]
theorem rZ_bz (b : Bool) (σ : Sg) : rZ (bz b) σ = rI (bz b) σ := by cases b <;> rfl
theorem bz_if (p : Prop) [Decidable p] : (if p then zI 1 else zI 0) = bz (decide p) := by by_cases h : p <;> simp [h, bz]
theorem sh_bz (s : Int32) {k : Int} (h : 0 ≤ k) (h' : k < 32) : (s >>> (zI k &&& zI 31)) &&& zI 1 = bz (gb s k) := sh_gb s h h'
def iN (a : Int) : Prop := -2147483648 ≤ a ∧ a < 2147483648
theorem isName_sp {σ : Sg} {r : Nat} {n : Int} (h1 : σ.2.2 4 1 = r) (h2 : (SH r).1 = 6) (h3 : rd σ r 0 = n) (h4 : 0 ≤ n ∧ n ≤ 6) {d : Nat} {a : Int} (ha : -2147483648 ≤ a ∧ a < 2147483648) : f_N_isName (d + 1) (zI a) σ = rI (bz (decide (0 ≤ a ∧ a < n))) σ := by
  rw [f_N_isName_eq]
  simp (disch := first | assumption | omega) only [cI_rI, cV_rV, cJ_rJ, rZ_0, rZ_1, rZ_z0, rZ_z1, zI_lit, zI_ofNat, zI_add, zI_sub, zI_mul, zI_neg, Int.cast_ofNat_Int, Int.reduceNeg, Int.reduceAdd, Int.reduceSub, Int.reduceMul, zI_eq, zI_le, ix_zI, bnd_zI, rd_k, toNat_c, Int.reduceEq, Int.reduceLT, Int.reduceNe, if_true, if_false, reduceIte, Nat.reduceAdd, h1, gfI_of, h3]
  repeat' split
  all_goals first | exact congrArg (rI · σ) (bz_t (by omega)) | exact congrArg (rI · σ) (bz_f (by omega))
theorem in_sp {σ : Sg} {d : Nat} {a b c : Int} (ha : -2147483648 ≤ a ∧ a < 2147483648) (hb : -2147483648 ≤ b ∧ b < 2147483648) (hc : -2147483648 ≤ c ∧ c < 2147483648) : f_M_in (d + 1) (zI a) (zI b) (zI c) σ = rI (bz (decide (b ≤ a ∧ a ≤ c))) σ := by
  rw [f_M_in_eq]
  simp (disch := first | assumption | omega) only [cI_rI, cV_rV, cJ_rJ, rZ_0, rZ_1, rZ_z0, rZ_z1, zI_lit, zI_ofNat, zI_add, zI_sub, zI_mul, zI_neg, Int.cast_ofNat_Int, Int.reduceNeg, Int.reduceAdd, Int.reduceSub, Int.reduceMul, zI_eq, zI_le, ix_zI, bnd_zI, rd_k, toNat_c, Int.reduceEq, Int.reduceLT, Int.reduceNe, if_true, if_false, reduceIte, Nat.reduceAdd]
  repeat' split
  all_goals first | exact congrArg (rI · σ) (bz_t (by omega)) | exact congrArg (rI · σ) (bz_f (by omega))
theorem isNameM_sp {σ : Sg} {n : Int} (h3 : rd σ 102 5 = n) (h4 : 0 ≤ n ∧ n ≤ 6) {d : Nat} {a : Int} (ha : -2147483648 ≤ a ∧ a < 2147483648) : f_M_isName (d + 2) (zI a) σ = rI (bz (decide (0 ≤ a ∧ a < n))) σ := by
  rw [f_M_isName_eq]
  simp (disch := first | assumption | omega) only [cI_rI, cV_rV, cJ_rJ, rZ_0, rZ_1, rZ_z0, rZ_z1, zI_lit, zI_ofNat, zI_add, zI_sub, zI_mul, zI_neg, Int.cast_ofNat_Int, Int.reduceNeg, Int.reduceAdd, Int.reduceSub, Int.reduceMul, zI_eq, zI_le, ix_zI, bnd_zI, rd_k, toNat_c, Int.reduceEq, Int.reduceLT, Int.reduceNe, if_true, if_false, reduceIte, Nat.reduceAdd, h3, in_sp]
  rw [rZ_bz]
  exact congrArg (fun b => rI (bz b) σ) (decide_eq_decide.mpr (by omega))
theorem isPersonM_sp {σ : Sg} {n : Int} (h3 : rd σ 102 69 = n) (h4 : 0 ≤ n ∧ n ≤ 24) {d : Nat} {a : Int} (ha : -2147483648 ≤ a ∧ a < 2147483648) : f_M_isPerson (d + 2) (zI a) σ = rI (bz (decide (0 ≤ a ∧ a < n))) σ := by
  rw [f_M_isPerson_eq]
  simp (disch := first | assumption | omega) only [cI_rI, cV_rV, cJ_rJ, rZ_0, rZ_1, rZ_z0, rZ_z1, zI_lit, zI_ofNat, zI_add, zI_sub, zI_mul, zI_neg, Int.cast_ofNat_Int, Int.reduceNeg, Int.reduceAdd, Int.reduceSub, Int.reduceMul, zI_eq, zI_le, ix_zI, bnd_zI, rd_k, toNat_c, Int.reduceEq, Int.reduceLT, Int.reduceNe, if_true, if_false, reduceIte, Nat.reduceAdd, h3, in_sp]
  rw [rZ_bz]
  exact congrArg (fun b => rI (bz b) σ) (decide_eq_decide.mpr (by omega))
theorem has_sp {σ : Sg} {p : Nat} {n : Int} (h2 : (SH p).1 = 4) (h3 : rd σ p 0 = n) (h4 : 0 ≤ n ∧ n ≤ 24) {d : Nat} {a : Int} (ha : -2147483648 ≤ a ∧ a < 2147483648) : f_Roll_has (d + 1) p (zI a) σ = rI (bz (decide (0 ≤ a ∧ a < n))) σ := by
  rw [f_Roll_has_eq]
  simp (disch := first | assumption | omega) only [cI_rI, cV_rV, cJ_rJ, rZ_0, rZ_1, rZ_z0, rZ_z1, zI_lit, zI_ofNat, zI_add, zI_sub, zI_mul, zI_neg, Int.cast_ofNat_Int, Int.reduceNeg, Int.reduceAdd, Int.reduceSub, Int.reduceMul, zI_eq, zI_le, ix_zI, bnd_zI, rd_k, toNat_c, Int.reduceEq, Int.reduceLT, Int.reduceNe, if_true, if_false, reduceIte, Nat.reduceAdd, gfI_of, h3]
  repeat' split
  all_goals first | exact congrArg (rI · σ) (bz_t (by omega)) | exact congrArg (rI · σ) (bz_f (by omega))
theorem isSort_sp {σ : Sg} {d : Nat} {a : Int} (ha : -2147483648 ≤ a ∧ a < 2147483648) : f_N_isSort (d + 1) (zI a) σ = rI (bz (decide (0 ≤ a ∧ a ≤ 1))) σ := by
  rw [f_N_isSort_eq]
  simp (disch := first | assumption | omega) only [cI_rI, cV_rV, cJ_rJ, rZ_0, rZ_1, rZ_z0, rZ_z1, zI_lit, zI_ofNat, zI_add, zI_sub, zI_mul, zI_neg, Int.cast_ofNat_Int, Int.reduceNeg, Int.reduceAdd, Int.reduceSub, Int.reduceMul, zI_eq, zI_le, ix_zI, bnd_zI, rd_k, toNat_c, Int.reduceEq, Int.reduceLT, Int.reduceNe, if_true, if_false, reduceIte, Nat.reduceAdd]
  repeat' split
  all_goals first | exact congrArg (rI · σ) (bz_t (by omega)) | exact congrArg (rI · σ) (bz_f (by omega))
theorem isNumberOf_sp {σ : Sg} {d : Nat} {a : Int} (ha : -2147483648 ≤ a ∧ a < 2147483648) : f_N_isNumberOf (d + 1) (zI a) σ = rI (bz (decide (0 ≤ a ∧ a ≤ 9999))) σ := by
  rw [f_N_isNumberOf_eq]
  simp (disch := first | assumption | omega) only [cI_rI, cV_rV, cJ_rJ, rZ_0, rZ_1, rZ_z0, rZ_z1, zI_lit, zI_ofNat, zI_add, zI_sub, zI_mul, zI_neg, Int.cast_ofNat_Int, Int.reduceNeg, Int.reduceAdd, Int.reduceSub, Int.reduceMul, zI_eq, zI_le, ix_zI, bnd_zI, rd_k, toNat_c, Int.reduceEq, Int.reduceLT, Int.reduceNe, if_true, if_false, reduceIte, Nat.reduceAdd]
  repeat' split
  all_goals first | exact congrArg (rI · σ) (bz_t (by omega)) | exact congrArg (rI · σ) (bz_f (by omega))
theorem isYears_sp {σ : Sg} {d : Nat} {a : Int} (ha : -2147483648 ≤ a ∧ a < 2147483648) : f_N_isYears (d + 1) (zI a) σ = rI (bz (decide (1 ≤ a ∧ a ≤ 100))) σ := by
  rw [f_N_isYears_eq]
  simp (disch := first | assumption | omega) only [cI_rI, cV_rV, cJ_rJ, rZ_0, rZ_1, rZ_z0, rZ_z1, zI_lit, zI_ofNat, zI_add, zI_sub, zI_mul, zI_neg, Int.cast_ofNat_Int, Int.reduceNeg, Int.reduceAdd, Int.reduceSub, Int.reduceMul, zI_eq, zI_le, ix_zI, bnd_zI, rd_k, toNat_c, Int.reduceEq, Int.reduceLT, Int.reduceNe, if_true, if_false, reduceIte, Nat.reduceAdd]
  repeat' split
  all_goals first | exact congrArg (rI · σ) (bz_t (by omega)) | exact congrArg (rI · σ) (bz_f (by omega))
theorem isStep_sp {σ : Sg} {d : Nat} {a b : Int} (ha : -2147483648 ≤ a ∧ a < 2147483648) (hb : 0 ≤ b ∧ b ≤ 1000) : f_N_isStep (d + 1) (zI a) (zI b) σ = rI (bz (decide (a = 100 ∨ 0 ≤ a ∧ a < b))) σ := by
  rw [f_N_isStep_eq]
  simp (disch := first | assumption | omega) only [cI_rI, cV_rV, cJ_rJ, rZ_0, rZ_1, rZ_z0, rZ_z1, zI_lit, zI_ofNat, zI_add, zI_sub, zI_mul, zI_neg, Int.cast_ofNat_Int, Int.reduceNeg, Int.reduceAdd, Int.reduceSub, Int.reduceMul, zI_eq, zI_le, ix_zI, bnd_zI, rd_k, toNat_c, Int.reduceEq, Int.reduceLT, Int.reduceNe, if_true, if_false, reduceIte, Nat.reduceAdd]
  repeat' split
  all_goals first | exact congrArg (rI · σ) (bz_t (by omega)) | exact congrArg (rI · σ) (bz_f (by omega))
theorem isStepOr_sp {σ : Sg} {d : Nat} {a b : Int} (ha : -2147483648 ≤ a ∧ a < 2147483648) (hb : 0 ≤ b ∧ b ≤ 1000) : f_M_isStepOr (d + 2) (zI a) (zI b) σ = rI (bz (decide (a = 100 ∨ 0 ≤ a ∧ a < b + 1))) σ := by
  rw [f_M_isStepOr_eq]
  simp (disch := first | assumption | omega) only [cI_rI, cV_rV, cJ_rJ, rZ_0, rZ_1, rZ_z0, rZ_z1, zI_lit, zI_ofNat, zI_add, zI_sub, zI_mul, zI_neg, Int.cast_ofNat_Int, Int.reduceNeg, Int.reduceAdd, Int.reduceSub, Int.reduceMul, zI_eq, zI_le, ix_zI, bnd_zI, rd_k, toNat_c, Int.reduceEq, Int.reduceLT, Int.reduceNe, if_true, if_false, reduceIte, Nat.reduceAdd, in_sp, bz_0, decide_eq_false_iff_not]
  repeat' split
  all_goals first | exact congrArg (rI · σ) (bz_t (by omega)) | exact congrArg (rI · σ) (bz_f (by omega))
theorem orNothing_sp {σ : Sg} {d : Nat} {a : Int} (ha : -1 ≤ a ∧ a < 2147483648) : f_N_orNothing (d + 1) (zI a) σ = rI (zI (if a = -1 then -2 else a)) σ := by
  rw [f_N_orNothing_eq]
  simp (disch := first | assumption | omega) only [cI_rI, cV_rV, cJ_rJ, rZ_0, rZ_1, rZ_z0, rZ_z1, zI_lit, zI_ofNat, zI_add, zI_sub, zI_mul, zI_neg, Int.cast_ofNat_Int, Int.reduceNeg, Int.reduceAdd, Int.reduceSub, Int.reduceMul, zI_eq, zI_le, ix_zI, bnd_zI, rd_k, toNat_c, Int.reduceEq, Int.reduceLT, Int.reduceNe, if_true, if_false, reduceIte, Nat.reduceAdd]
  repeat' split
  all_goals first | rfl | omega
theorem orNone_sp {σ : Sg} {d : Nat} {a : Int} (ha : -1 ≤ a ∧ a < 2147483648) : f_M_orNone (d + 1) (zI a) σ = rI (zI (if a = -1 then -2 else a)) σ := by
  rw [f_M_orNone_eq]
  simp (disch := first | assumption | omega) only [cI_rI, cV_rV, cJ_rJ, rZ_0, rZ_1, rZ_z0, rZ_z1, zI_lit, zI_ofNat, zI_add, zI_sub, zI_mul, zI_neg, Int.cast_ofNat_Int, Int.reduceNeg, Int.reduceAdd, Int.reduceSub, Int.reduceMul, zI_eq, zI_le, ix_zI, bnd_zI, rd_k, toNat_c, Int.reduceEq, Int.reduceLT, Int.reduceNe, if_true, if_false, reduceIte, Nat.reduceAdd]
  repeat' split
  all_goals first | rfl | omega
theorem minM_sp {σ : Sg} {d : Nat} {a b : Int} (ha : -2147483648 ≤ a ∧ a < 2147483648) (hb : -2147483648 ≤ b ∧ b < 2147483648) : f_M_min (d + 1) (zI a) (zI b) σ = rI (zI (min a b)) σ := by
  rw [f_M_min_eq]
  simp (disch := first | assumption | omega) only [cI_rI, cV_rV, cJ_rJ, rZ_0, rZ_1, rZ_z0, rZ_z1, zI_lit, zI_ofNat, zI_add, zI_sub, zI_mul, zI_neg, Int.cast_ofNat_Int, Int.reduceNeg, Int.reduceAdd, Int.reduceSub, Int.reduceMul, zI_eq, zI_le, ix_zI, bnd_zI, rd_k, toNat_c, Int.reduceEq, Int.reduceLT, Int.reduceNe, if_true, if_false, reduceIte, Nat.reduceAdd]
  split
  · rw [show min a b = a by omega]
  · rw [show min a b = b by omega]
theorem maxM_sp {σ : Sg} {d : Nat} {a b : Int} (ha : -2147483648 ≤ a ∧ a < 2147483648) (hb : -2147483648 ≤ b ∧ b < 2147483648) : f_M_max (d + 1) (zI a) (zI b) σ = rI (zI (max a b)) σ := by
  rw [f_M_max_eq]
  simp (disch := first | assumption | omega) only [cI_rI, cV_rV, cJ_rJ, rZ_0, rZ_1, rZ_z0, rZ_z1, zI_lit, zI_ofNat, zI_add, zI_sub, zI_mul, zI_neg, Int.cast_ofNat_Int, Int.reduceNeg, Int.reduceAdd, Int.reduceSub, Int.reduceMul, zI_eq, zI_le, ix_zI, bnd_zI, rd_k, toNat_c, Int.reduceEq, Int.reduceLT, Int.reduceNe, if_true, if_false, reduceIte, Nat.reduceAdd]
  split
  · rw [show max a b = a by omega]
  · rw [show max a b = b by omega]
/-- a person's bit; nobody: none -/
def bitF (a : Int) : Int32 := if a < 0 then zI 0 else zI 1 <<< (zI a &&& zI 31)
theorem gb_bitF {a k : Int} (h : a < 32) (hk : 0 ≤ k) (hk' : k < 32) : gb (bitF a) k = decide (k = a) := by
  unfold bitF
  split
  · rw [gb_0]; exact (decide_eq_false (by omega)).symm
  · rw [gb_sh (by omega) h hk hk']
theorem bitM_sp {σ : Sg} {d : Nat} {a : Int} (ha : -1 ≤ a ∧ a < 32) : f_M_bit (d + 1) (zI a) σ = rI (bitF a) σ := by
  rw [f_M_bit_eq]
  unfold bitF
  simp (disch := first | assumption | omega) only [cI_rI, cV_rV, cJ_rJ, rZ_0, rZ_1, rZ_z0, rZ_z1, zI_lit, zI_ofNat, zI_add, zI_sub, zI_mul, zI_neg, Int.cast_ofNat_Int, Int.reduceNeg, Int.reduceAdd, Int.reduceSub, Int.reduceMul, zI_eq, zI_le, ix_zI, bnd_zI, rd_k, toNat_c, Int.reduceEq, Int.reduceLT, Int.reduceNe, if_true, if_false, reduceIte, Nat.reduceAdd]
  repeat' split
  all_goals first | rfl | omega
theorem bitN_sp {σ : Sg} {d : Nat} {a : Int} (ha : -1 ≤ a ∧ a < 32) : f_Roll_bit (d + 1) (zI a) σ = rI (bitF a) σ := by
  rw [f_Roll_bit_eq]
  unfold bitF
  simp (disch := first | assumption | omega) only [cI_rI, cV_rV, cJ_rJ, rZ_0, rZ_1, rZ_z0, rZ_z1, zI_lit, zI_ofNat, zI_add, zI_sub, zI_mul, zI_neg, Int.cast_ofNat_Int, Int.reduceNeg, Int.reduceAdd, Int.reduceSub, Int.reduceMul, zI_eq, zI_le, ix_zI, bnd_zI, rd_k, toNat_c, Int.reduceEq, Int.reduceLT, Int.reduceNe, if_true, if_false, reduceIte, Nat.reduceAdd]
  repeat' split
  all_goals first | rfl | omega
theorem hasM_sp {σ : Sg} {d : Nat} {s : Int32} {a : Int} (ha : 0 ≤ a ∧ a < 32) : f_M_has (d + 1) s (zI a) σ = rI (bz (gb s a)) σ := by
  rw [f_M_has_eq]
  simp only [cI_rI, cV_rV, cJ_rJ, rZ_0, rZ_1, rZ_z0, rZ_z1, zI_lit, zI_ofNat, zI_add, zI_sub, zI_mul, zI_neg, Int.cast_ofNat_Int, Int.reduceNeg, Int.reduceAdd, Int.reduceSub, Int.reduceMul, sh_bz s ha.1 ha.2, bz_1]
  cases gb s a <;> rfl
/-- how many of 0 .. k - 1 -/
def cnt (p : Int → Bool) : Nat → Int
  | 0 => 0
  | k + 1 => cnt p k + (if p (k : Int) = true then 1 else 0)
theorem cnt_s (p : Int → Bool) (k : Nat) : cnt p (k + 1) = cnt p k + (if p (k : Int) = true then 1 else 0) := rfl
theorem cnt_nn (p : Int → Bool) : ∀ k : Nat, 0 ≤ cnt p k ∧ cnt p k ≤ k
  | 0 => ⟨Int.le_refl 0, Int.le_refl 0⟩
  | k + 1 => by
    have := cnt_nn p k
    unfold cnt
    split <;> omega
theorem cnt_congr {p q : Int → Bool} : ∀ {k : Nat}, (∀ i : Int, 0 ≤ i → i < k → p i = q i) → cnt p k = cnt q k
  | 0, _ => rfl
  | k + 1, h => by
    unfold cnt
    rw [cnt_congr (k := k) fun i h1 h2 => h i h1 (by omega), h k (by omega) (by omega)]
theorem bits_sp {σ : Sg} {d : Nat} {s : Int32} : f_M_bits (d + 1) s σ = rI (zI (cnt (gb s) 24)) σ := by
  rw [f_M_bits_eq]
  have := zloop 24 (fun i (a : Int) => f_M_bits_4 d s (zI a) (zI i) σ) (fun i a => 0 ≤ i ∧ a = cnt (gb s) i.toNat) (fun o => o = rI (zI (cnt (gb s) 24)) σ) ?_ ?_ 0 0 (by decide) ⟨by decide, rfl⟩
  · exact this
  · rintro i a hi ⟨h0, rfl⟩
    refine Or.inr ⟨cnt (gb s) (i + 1).toNat, ?_, by omega, rfl⟩
    show f_M_bits_4 d s _ _ σ = _
    rw [f_M_bits_4_eq]
    simp (disch := first | assumption | omega) only [cI_rI, cV_rV, cJ_rJ, rZ_0, rZ_1, rZ_z0, rZ_z1, zI_lit, zI_ofNat, zI_add, zI_sub, zI_mul, zI_neg, Int.cast_ofNat_Int, Int.reduceNeg, Int.reduceAdd, Int.reduceSub, Int.reduceMul, zI_eq, zI_le, ix_zI, bnd_zI, rd_k, toNat_c, Int.reduceEq, Int.reduceLT, Int.reduceNe, if_true, if_false, reduceIte, Nat.reduceAdd, sh_bz s h0 (show i < 32 by omega)]
    rw [show (i + 1).toNat = i.toNat + 1 by omega, cnt_s]
    rw [show ((i.toNat : Nat) : Int) = i by omega, if_pos hi]
    cases gb s i <;> simp only [bz_tt, bz_ff, zI_add, if_true, if_false, Bool.false_eq_true, Int.add_zero]
  · rintro a ⟨-, rfl⟩
    show f_M_bits_4 d s _ _ σ = _
    rw [f_M_bits_4_eq]
    simp (disch := first | assumption | omega) only [cI_rI, cV_rV, cJ_rJ, rZ_0, rZ_1, rZ_z0, rZ_z1, zI_lit, zI_ofNat, zI_add, zI_sub, zI_mul, zI_neg, Int.cast_ofNat_Int, Int.reduceNeg, Int.reduceAdd, Int.reduceSub, Int.reduceMul, zI_eq, zI_le, ix_zI, bnd_zI, rd_k, toNat_c, Int.reduceEq, Int.reduceLT, Int.reduceNe, if_true, if_false, reduceIte, Nat.reduceAdd]
    rfl
theorem lowestM_sp {σ : Sg} {d : Nat} {s : Int32} {k : Int} (h : gb s k = true) (h0 : 0 ≤ k ∧ k < 32) (hl : ∀ j : Int, 0 ≤ j → j < k → gb s j = false) : f_M_lowest (d + 2) s σ = rI (zI k) σ := by
  rw [f_M_lowest_eq]
  have := zloop k (fun i (_ : Unit) => f_M_lowest_2 (d + 1) s (zI i) σ) (fun i _ => 0 ≤ i) (fun o => o = rI (zI k) σ) ?_ ?_ 0 () h0.1 (by decide)
  · exact this
  · intro i _ hi h1
    refine Or.inr ⟨(), ?_, by omega⟩
    show f_M_lowest_2 _ s _ σ = _
    rw [f_M_lowest_2_eq, hasM_sp (by omega), hl i h1 hi]
    simp only [cI_rI, cV_rV, cJ_rJ, rZ_0, rZ_1, rZ_z0, rZ_z1, zI_lit, zI_ofNat, zI_add, zI_sub, zI_mul, zI_neg, Int.cast_ofNat_Int, Int.reduceNeg, Int.reduceAdd, Int.reduceSub, Int.reduceMul, bz_ff, if_true]
  · intro _ _
    show f_M_lowest_2 _ s _ σ = _
    rw [f_M_lowest_2_eq, hasM_sp (by omega), h]
    simp (disch := first | assumption | omega) only [cI_rI, cV_rV, cJ_rJ, rZ_0, rZ_1, rZ_z0, rZ_z1, zI_lit, zI_ofNat, zI_add, zI_sub, zI_mul, zI_neg, Int.cast_ofNat_Int, Int.reduceNeg, Int.reduceAdd, Int.reduceSub, Int.reduceMul, zI_eq, zI_le, ix_zI, bnd_zI, bz_tt]
    rw [if_neg (by decide)]
theorem lowestOf_sp {σ : Sg} {d : Nat} {s : Int32} {k : Int} (h : gb s k = true) (h0 : 0 ≤ k ∧ k < 32) (hl : ∀ j : Int, 0 ≤ j → j < k → gb s j = false) : f_N_lowestOf (d + 1) s σ = rI (zI k) σ := by
  rw [f_N_lowestOf_eq]
  have := zloop 32 (fun i (a : Int) => f_N_lowestOf_5 d s (zI a) (zI (31 - i)) σ) (fun i a => 0 ≤ i ∧ (31 - i < k → a = k)) (fun o => o = rI (zI k) σ) ?_ ?_ 0 0 (by decide) ⟨by decide, by omega⟩
  · exact this
  · rintro i a hi ⟨h1, h2⟩
    have e : f_N_lowestOf_5 d s (zI a) (zI (31 - i)) σ = f_N_lowestOf_5 d s (if gb s (31 - i) = true then zI (31 - i) else zI a) (zI (31 - (i + 1))) σ := by
      rw [f_N_lowestOf_5_eq]
      simp (disch := first | assumption | omega) only [cI_rI, cV_rV, cJ_rJ, rZ_0, rZ_1, rZ_z0, rZ_z1, zI_lit, zI_ofNat, zI_add, zI_sub, zI_mul, zI_neg, Int.cast_ofNat_Int, Int.reduceNeg, Int.reduceAdd, Int.reduceSub, Int.reduceMul, zI_eq, zI_le, ix_zI, bnd_zI, rd_k, toNat_c, Int.reduceEq, Int.reduceLT, Int.reduceNe, if_true, if_false, reduceIte, Nat.reduceAdd, sh_bz s (show 0 ≤ 31 - i by omega) (show 31 - i < 32 by omega), bz_0]
      rw [if_neg (by omega), show 31 - (i + 1) = 31 - i + -1 by omega]
      cases gb s (31 - i) <;> rfl
    refine Or.inr ⟨if gb s (31 - i) = true then 31 - i else a, ?_, by omega, fun h3 => ?_⟩
    · show f_N_lowestOf_5 d s (zI a) (zI (31 - i)) σ = _
      rw [e]; split <;> rfl
    · by_cases q : 31 - i = k
      · rw [q, if_pos h]
      · rw [hl (31 - i) (by omega) (by omega)]; exact h2 (by omega)
  · rintro a ⟨-, h2⟩
    show f_N_lowestOf_5 d s (zI a) (zI (31 - 32)) σ = _
    rw [f_N_lowestOf_5_eq]
    simp (disch := first | assumption | omega) only [cI_rI, cV_rV, cJ_rJ, rZ_0, rZ_1, rZ_z0, rZ_z1, zI_lit, zI_ofNat, zI_add, zI_sub, zI_mul, zI_neg, Int.cast_ofNat_Int, Int.reduceNeg, Int.reduceAdd, Int.reduceSub, Int.reduceMul, zI_eq, zI_le, ix_zI, bnd_zI, rd_k, toNat_c, Int.reduceEq, Int.reduceLT, Int.reduceNe, if_true, if_false, reduceIte, Nat.reduceAdd]
    rw [h2 (by omega)]
