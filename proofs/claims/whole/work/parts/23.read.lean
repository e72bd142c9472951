/-! cells as Int -/
def rd (σ : Sg) (a : Nat) (x : Int) : Int := (σ.1 a x.toNat).toInt
theorem rd_k (σ : Sg) (a k : Nat) : σ.1 a k = zI (rd σ a (k : Int)) := by
  unfold rd; rw [show ((k : Nat) : Int).toNat = k by omega]; exact (zI_self _).symm
theorem rd_lo (σ : Sg) (a : Nat) (x : Int) : -2147483648 ≤ rd σ a x := by have := (σ.1 a x.toNat).le_toInt; unfold rd; omega
theorem rd_hi (σ : Sg) (a : Nat) (x : Int) : rd σ a x < 2147483648 := by have := (σ.1 a x.toNat).toInt_lt; unfold rd; omega
theorem toNat_c {x : Int} (h : 0 ≤ x) : ((x.toNat : Nat) : Int) = x := Int.toNat_of_nonneg h
theorem rd_same {σ : Sg} {a k : Nat} {v y : Int} (h : y.toNat = k) (h1 : -2147483648 ≤ v) (h2 : v < 2147483648) : rd (sI σ a k (zI v)) a y = v := by
  unfold rd; rw [h, sI_same, zI_toInt h1 h2]
theorem rd_other {σ : Sg} {a k b : Nat} {v : Int32} {y : Int} (h : b ≠ a ∨ y.toNat ≠ k) : rd (sI σ a k v) b y = rd σ b y := by
  unfold rd; rw [sI_1, if_neg (by omega)]
theorem rd_sR (σ : Sg) (a k v b : Nat) (y : Int) : rd (sR σ a k v) b y = rd σ b y := rfl
theorem rd_sJ (σ : Sg) (a k : Nat) (v : Int64) (b : Nat) (y : Int) : rd (sJ σ a k v) b y = rd σ b y := rfl
theorem fr_rd {S : Nat → Nat → Bool} {σ σ' : Sg} (h : Fr S σ σ') {a : Nat} {y : Int} (q : S a y.toNat = false) : rd σ' a y = rd σ a y := by
  show (σ'.1 a y.toNat).toInt = (σ.1 a y.toNat).toInt
  rw [h.2 a _ q]
theorem fr_row {S : Nat → Nat → Bool} {σ σ' : Sg} (h : Fr S σ σ') {a : Nat} (q : ∀ k, S a k = false) : rd σ' a = rd σ a := funext fun _ => fr_rd h (q _)
/-! a rule at one of two places -/
def isR (r : Nat) : Prop := r = 7 ∨ r = 12
theorem isR.s0 {r : Nat} (h : isR r) : (SH r).1 = 6 := by rcases h with rfl | rfl <;> rfl
theorem isR.s1 {r : Nat} (h : isR r) : SH (r + 1) = (14, 6) := by rcases h with rfl | rfl <;> rfl
theorem isR.s2 {r : Nat} (h : isR r) : SH (r + 2) = (14, 6) := by rcases h with rfl | rfl <;> rfl
theorem isR.s3 {r : Nat} (h : isR r) : SH (r + 3) = (14, 6) := by rcases h with rfl | rfl <;> rfl
theorem isR.s4 {r : Nat} (h : isR r) : SH (r + 4) = (14, 6) := by rcases h with rfl | rfl <;> rfl
/-- names: wife, husband, child, mother -/
def NmOk (n : Int) (W H C M : Int → Int) : Prop := n ≤ 6 ∧ ∀ x, 0 ≤ x → x < n → (0 ≤ W x ∧ W x < n ∧ 0 ≤ H x ∧ H x < n ∧ H (W x) = x ∧ W (H x) = x) ∧ 0 ≤ C x ∧ C x < n ∧ 0 ≤ M x ∧ M x < n ∧ M (C x) = x ∧ C (M x) = x
def goF (W H C M : Int → Int) (k s x : Int) : Int := if k = 0 then H (M x) else if k = 1 then M x else if k = 2 then H x else if k = 3 then W x else if k = 4 then (if s = 0 then C (W x) else C x) else if k = 5 then (if s = 0 then C (W x) else C x) else x
theorem goF_lt {n : Int} {W H C M : Int → Int} (h : NmOk n W H C M) {k s x : Int} (h0 : 0 ≤ x) (h1 : x < n) : 0 ≤ goF W H C M k s x ∧ goF W H C M k s x < n := by
  obtain ⟨⟨a1, a2, a3, a4, -, -⟩, b1, b2, b3, b4, -, -⟩ := h.2 x h0 h1
  obtain ⟨⟨-, -, c3, c4, -, -⟩, -⟩ := h.2 _ b3 b4
  obtain ⟨-, d1, d2, -⟩ := h.2 _ a1 a2
  unfold goF
  repeat' split
  all_goals constructor <;> assumption
def RuleAt (σ : Sg) (r : Nat) (n : Int) : Prop := isR r ∧ rd σ r 0 = n ∧ NmOk n (rd σ (r + 1)) (rd σ (r + 2)) (rd σ (r + 3)) (rd σ (r + 4))
theorem go_sp {σ : Sg} {r : Nat} {n : Int} (h : RuleAt σ r n) {d : Nat} {k s x : Int} (hk : 0 ≤ k) (hk' : k < 8) (hs : 0 ≤ s) (hs' : s < 2) (h0 : 0 ≤ x) (h1 : x < n) : f_Rule_go (d + 1) r (zI k) (zI s) (zI x) σ = rI (zI (goF (rd σ (r + 1)) (rd σ (r + 2)) (rd σ (r + 3)) (rd σ (r + 4)) k s x)) σ := by
  obtain ⟨hr, -, hn, h⟩ := h
  have s0 := hr.s0; have s1 := hr.s1; have s2 := hr.s2; have s3 := hr.s3; have s4 := hr.s4
  obtain ⟨⟨a1, a2, a3, a4, -, -⟩, b1, b2, b3, b4, -, -⟩ := h x h0 h1
  rw [f_Rule_go_eq]
  unfold goF
  simp only [cI_rI, cV_rV, cJ_rJ, rZ_0, rZ_1, rZ_z0, rZ_z1, zI_lit, zI_ofNat, zI_add, zI_sub, zI_mul, zI_neg, Int.cast_ofNat_Int, Int.reduceNeg, Int.reduceAdd, Int.reduceSub, Int.reduceMul, ofs_0_0, ofs_0_1, ofs_0_2, ofs_0_3, ofs_0_4, ofs_1_0, ofs_1_1, ofs_1_2, ofs_1_3, ofs_1_4, ofs_1_5, ofs_2_1, ofs_2_2, ofs_2_3, ofs_2_4, ofs_2_6, ofs_2_7, ofs_2_8, ofs_3_0, ofs_3_1, ofs_3_2, ofs_3_3, ofs_4_1, ofs_4_2, ofs_4_3, ofs_4_4, ofs_4_5, ofs_4_6, ofs_4_7, ofs_5_1, ofs_5_2, ofs_5_3, ofs_5_4, ofs_5_6, ofs_6_1, ofs_6_2, ofs_6_3, ofs_6_4, ofs_7_0, ofs_8_0, ofs_8_1, ofs_8_2, ofs_8_8, ofs_9_1, ofs_9_2, ofs_9_4, ofs_9_5, ofs_9_6, ofs_10_0, ofs_10_7, ofs_10_8, ofs_10_9, ofs_10_10, ofs_10_11, ofs_10_12, ofs_10_13, ofs_10_14, ofs_10_15, ofs_11_0, ofs_11_1, ofs_11_2, ofs_11_3, ofs_11_4, ofs_11_6, ofs_11_17, ofs_11_18, ofs_11_19, ofs_11_20, ofs_11_21, ofs_11_22, ofs_11_23, ofs_11_24, ofs_11_25, ofs_11_26, ofs_11_27, ofs_11_28, ofs_11_29, ofs_11_30, ofs_11_31, ofs_11_33, ofs_11_34, ofs_11_35, ofs_11_36, ofs_11_37, ofs_11_43, ofs_11_44, ofs_11_45, ofs_11_47, ofs_11_48, ofs_11_49, ofs_11_50, ofs_11_51, ofs_11_52, ofs_11_54, ofs_11_55, ofs_11_56, ofs_11_57, ofs_11_59, ofs_11_60, ofs_11_61, ofs_11_62, ofs_11_63, ofs_11_64, ofs_11_65, ofs_11_66, ofs_11_67, ofs_11_68, ofs_11_71, ofs_11_74, ofs_11_75, ofs_11_76, ofs_11_77, ofs_11_78]
  rcases (show k = 0 ∨ k = 1 ∨ k = 2 ∨ k = 3 ∨ k = 4 ∨ k = 5 ∨ k = 6 ∨ k = 7 by omega) with e | e | e | e | e | e | e | e <;> subst e
  all_goals try (rcases (show s = 0 ∨ s = 1 by omega) with e | e <;> subst e)
  all_goals simp (disch := first | assumption | omega) only [zI_eq, zI_le, ix_zI, bnd_zI, rd_k, toNat_c, Int.reduceEq, Int.reduceLT, Int.reduceNe, if_true, if_false, reduceIte, Nat.reduceAdd, ofs_0_0, ofs_0_1, ofs_0_2, ofs_0_3, ofs_0_4, ofs_1_0, ofs_1_1, ofs_1_2, ofs_1_3, ofs_1_4, ofs_1_5, ofs_2_1, ofs_2_2, ofs_2_3, ofs_2_4, ofs_2_6, ofs_2_7, ofs_2_8, ofs_3_0, ofs_3_1, ofs_3_2, ofs_3_3, ofs_4_1, ofs_4_2, ofs_4_3, ofs_4_4, ofs_4_5, ofs_4_6, ofs_4_7, ofs_5_1, ofs_5_2, ofs_5_3, ofs_5_4, ofs_5_6, ofs_6_1, ofs_6_2, ofs_6_3, ofs_6_4, ofs_7_0, ofs_8_0, ofs_8_1, ofs_8_2, ofs_8_8, ofs_9_1, ofs_9_2, ofs_9_4, ofs_9_5, ofs_9_6, ofs_10_0, ofs_10_7, ofs_10_8, ofs_10_9, ofs_10_10, ofs_10_11, ofs_10_12, ofs_10_13, ofs_10_14, ofs_10_15, ofs_11_0, ofs_11_1, ofs_11_2, ofs_11_3, ofs_11_4, ofs_11_6, ofs_11_17, ofs_11_18, ofs_11_19, ofs_11_20, ofs_11_21, ofs_11_22, ofs_11_23, ofs_11_24, ofs_11_25, ofs_11_26, ofs_11_27, ofs_11_28, ofs_11_29, ofs_11_30, ofs_11_31, ofs_11_33, ofs_11_34, ofs_11_35, ofs_11_36, ofs_11_37, ofs_11_43, ofs_11_44, ofs_11_45, ofs_11_47, ofs_11_48, ofs_11_49, ofs_11_50, ofs_11_51, ofs_11_52, ofs_11_54, ofs_11_55, ofs_11_56, ofs_11_57, ofs_11_59, ofs_11_60, ofs_11_61, ofs_11_62, ofs_11_63, ofs_11_64, ofs_11_65, ofs_11_66, ofs_11_67, ofs_11_68, ofs_11_71, ofs_11_74, ofs_11_75, ofs_11_76, ofs_11_77, ofs_11_78, gfS_of, ldI_of]
