/-! steps on names, in both -/
def canB (k s : Int) : Bool := decide (¬(k = 2 ∧ s = 0) ∧ ¬(k = 3 ∧ s = 1))
theorem k8 {k : Int} (h0 : 0 ≤ k) (h1 : k < 8) : k = 0 ∨ k = 1 ∨ k = 2 ∨ k = 3 ∨ k = 4 ∨ k = 5 ∨ k = 6 ∨ k = 7 := by omega
theorem canStep_sp {σ : Sg} {d : Nat} {k s : Int} (h0 : 0 ≤ k) (h1 : k < 8) (hs : s = 0 ∨ s = 1) : f_N_canStep (d + 1) (zI k) (zI s) σ = rI (bz (canB k s)) σ := by
  rw [f_N_canStep_eq]
  rcases k8 h0 h1 with rfl | rfl | rfl | rfl | rfl | rfl | rfl | rfl <;> rcases hs with rfl | rfl <;> simp (disch := first | assumption | omega) only [cI_rI, cV_rV, cJ_rJ, rZ_0, rZ_1, rZ_z0, rZ_z1, zI_lit, zI_ofNat, zI_add, zI_sub, zI_mul, zI_neg, Int.cast_ofNat_Int, Int.reduceNeg, Int.reduceAdd, Int.reduceSub, Int.reduceMul, zI_eq, zI_le, ix_zI, bnd_zI, toNat_c, Int.reduceEq, Int.reduceLT, Int.reduceNe, Int.reduceToNat, Int.reduceMul, Int.reduceAdd, Int.zero_add, if_true, if_false, reduceIte, Nat.reduceAdd] <;> rfl
theorem canBe_sp {σ : Sg} {d : Nat} {k s : Int} (h0 : 0 ≤ k) (h1 : k < 8) (hs : s = 0 ∨ s = 1) : f_M_canBe (d + 1) (zI k) (zI s) σ = rI (bz (canB k s)) σ := by
  rw [f_M_canBe_eq]
  rcases k8 h0 h1 with rfl | rfl | rfl | rfl | rfl | rfl | rfl | rfl <;> rcases hs with rfl | rfl <;> simp (disch := first | assumption | omega) only [cI_rI, cV_rV, cJ_rJ, rZ_0, rZ_1, rZ_z0, rZ_z1, zI_lit, zI_ofNat, zI_add, zI_sub, zI_mul, zI_neg, Int.cast_ofNat_Int, Int.reduceNeg, Int.reduceAdd, Int.reduceSub, Int.reduceMul, zI_eq, zI_le, ix_zI, bnd_zI, toNat_c, Int.reduceEq, Int.reduceLT, Int.reduceNe, Int.reduceToNat, Int.reduceMul, Int.reduceAdd, Int.zero_add, if_true, if_false, reduceIte, Nat.reduceAdd] <;> rfl
theorem and1f : ∀ k : Fin 64, (zI (k.val : Int) &&& zI 1 = zI ((k.val : Int) % 2)) ∧ zI (k.val : Int) >>> (zI 1 &&& zI 31) = zI ((k.val : Int) / 2) := by decide +kernel
theorem and1 {k : Int} (h0 : 0 ≤ k) (h1 : k < 64) : zI k &&& zI 1 = zI (k % 2) := by
  have := (and1f ⟨k.toNat, by omega⟩).1
  rwa [toNat_c h0] at this
theorem shr1 {k : Int} (h0 : 0 ≤ k) (h1 : k < 64) : zI k >>> (zI 1 &&& zI 31) = zI (k / 2) := by
  have := (and1f ⟨k.toNat, by omega⟩).2
  rwa [toNat_c h0] at this
theorem sortBehind_sp {σ : Sg} {d : Nat} {k : Int} (h0 : 0 ≤ k) (h1 : k < 8) : f_N_sortBehind (d + 1) (zI k) σ = rI (zI (k % 2)) σ := by
  rw [f_N_sortBehind_eq, show (1 : Int32) = zI 1 from zI_lit 1, and1 h0 (by omega)]
theorem sortBy_sp {σ : Sg} {d : Nat} {k : Int} (h0 : 0 ≤ k) (h1 : k < 8) : f_M_sortBy (d + 1) (zI k) σ = rI (zI (k % 2)) σ := by
  rw [f_M_sortBy_eq]
  rcases k8 h0 h1 with rfl | rfl | rfl | rfl | rfl | rfl | rfl | rfl <;> simp (disch := first | assumption | omega) only [cI_rI, cV_rV, cJ_rJ, rZ_0, rZ_1, rZ_z0, rZ_z1, zI_lit, zI_ofNat, zI_add, zI_sub, zI_mul, zI_neg, Int.cast_ofNat_Int, Int.reduceNeg, Int.reduceAdd, Int.reduceSub, Int.reduceMul, zI_eq, zI_le, ix_zI, bnd_zI, toNat_c, Int.reduceEq, Int.reduceLT, Int.reduceNe, Int.reduceToNat, Int.reduceMul, Int.reduceAdd, Int.zero_add, if_true, if_false, reduceIte, Nat.reduceAdd] <;> rfl
def MR4 (σ : Sg) (n : Int) (W H C M : Int → Int) : Prop := MR σ n W H C ∧ ∀ x, 0 ≤ x → x < n → 0 ≤ M x ∧ M x < n ∧ C (M x) = x ∧ M (C x) = x
theorem IRule.mr4 {σ : Sg} {r : Nat} (h : IRule r σ) : MR4 σ (rd σ r 0) (rd σ (r + 1)) (rd σ (r + 2)) (rd σ (r + 3)) (rd σ (r + 4)) := by
  refine ⟨h.mr, fun x x0 x1 => ?_⟩
  obtain ⟨⟨-, -, h1, h2⟩, -⟩ := h
  obtain ⟨-, b1, b2, b3, b4, b5, b6⟩ := h2 x x0 x1
  exact ⟨b3, b4, b6, b5⟩
theorem MR4.fr {S : Nat → Nat → Bool} {n : Int} {W H C M : Int → Int} {σ σ' : Sg} (h : MR4 σ n W H C M) (F : Fr S σ σ') (h1 : S 102 5 = false) (h2 : ∀ k, S 106 k = false) (h3 : ∀ k, S 107 k = false) : MR4 σ' n W H C M := ⟨h.1.fr F h1 h2 h3, h.2⟩
theorem beforeC {σ : Sg} {n : Int} {W H C M : Int → Int} (h : MR4 σ n W H C M) {d : Nat} {x : Int} (h0 : 0 ≤ x) (h1 : x < n) : f_M_before (d + 1) 107 (zI x) σ = rI (zI (M x)) σ := by
  obtain ⟨⟨-, n0, n6, hr⟩, hm⟩ := h
  obtain ⟨a1, a2, a3, -⟩ := hm x h0 h1
  refine before_sp rfl a1 (by omega) (by omega) ((hr _ a1 a2).2.1.trans a3) fun j j0 j1 e => ?_
  rw [(hr j j0 (by omega)).2.1] at e
  have := (hm j j0 (by omega)).2.2.2
  rw [e] at this
  omega
theorem nameBy_sp {σ : Sg} {n : Int} {W H C M : Int → Int} (h : MR4 σ n W H C M) {d : Nat} {k s x : Int} (hk : 0 ≤ k) (hk' : k < 8) (hs : s = 0 ∨ s = 1) (h0 : 0 ≤ x) (h1 : x < n) : f_M_nameBy (d + 2) (zI k) (zI x) (zI s) σ = rI (zI (goF W H C M k s x)) σ := by
  obtain ⟨⟨-, n0, n6, hr⟩, hm⟩ := id h
  obtain ⟨w, c, a1, a2, a3, a4, -, -, -, -⟩ := hr x h0 h1
  obtain ⟨b1, b2, -, -⟩ := hm x h0 h1
  have e1 := beforeC h (d := d) h0 h1
  have e2 := beforeW h.1 (d := d) h0 h1
  have e3 := beforeW h.1 (d := d) b1 b2
  have y1 : σ.1 106 x.toNat = zI (W x) := by rw [rd_k, toNat_c h0, w]
  have y2 : σ.1 107 x.toNat = zI (C x) := by rw [rd_k, toNat_c h0, c]
  have y3 : σ.1 107 (W x).toNat = zI (C (W x)) := by rw [rd_k, toNat_c a1, (hr _ a1 a2).2.1]
  rw [f_M_nameBy_eq]
  unfold goF
  rcases k8 hk hk' with rfl | rfl | rfl | rfl | rfl | rfl | rfl | rfl
  all_goals try (rcases hs with rfl | rfl)
  all_goals simp (disch := first | assumption | omega) only [cI_rI, cV_rV, cJ_rJ, rZ_0, rZ_1, rZ_z0, rZ_z1, zI_lit, zI_ofNat, zI_add, zI_sub, zI_mul, zI_neg, Int.cast_ofNat_Int, Int.reduceNeg, Int.reduceAdd, Int.reduceSub, Int.reduceMul, zI_eq, zI_le, ix_zI, bnd_zI, toNat_c, Int.reduceEq, Int.reduceLT, Int.reduceNe, Int.reduceToNat, Int.reduceMul, Int.reduceAdd, Int.zero_add, if_true, if_false, reduceIte, Nat.reduceAdd, e1, e2, e3, bnd_zI, y1, y2, y3]
def spF (W H : Int → Int) (s x : Int) : Int := if s = 0 then W x else H x
theorem spouse_sp {σ : Sg} {r : Nat} {n : Int} (h : RuleAt σ r n) {d : Nat} {s x : Int} (hs : s = 0 ∨ s = 1) (h0 : 0 ≤ x) (h1 : x < n) : f_Rule_spouse (d + 1) r (zI s) (zI x) σ = rI (zI (spF (rd σ (r + 1)) (rd σ (r + 2)) s x)) σ := by
  obtain ⟨w1, w2, w3, c1, c2, c3, c4, c5, c6, n6⟩ := ru h h0 h1
  have s0 := h.1.s0; have s1 := h.1.s1; have s2 := h.1.s2
  rw [f_Rule_spouse_eq]
  unfold spF
  rcases hs with rfl | rfl
  all_goals simp (disch := first | assumption | omega) only [cI_rI, cV_rV, cJ_rJ, rZ_0, rZ_1, rZ_z0, rZ_z1, zI_lit, zI_ofNat, zI_add, zI_sub, zI_mul, zI_neg, Int.cast_ofNat_Int, Int.reduceNeg, Int.reduceAdd, Int.reduceSub, Int.reduceMul, zI_eq, zI_le, ix_zI, bnd_zI, toNat_c, Int.reduceEq, Int.reduceLT, Int.reduceNe, Int.reduceToNat, Int.reduceMul, Int.reduceAdd, Int.zero_add, if_true, if_false, reduceIte, Nat.reduceAdd, ofs_0_0, ofs_0_1, ofs_0_2, ofs_0_3, ofs_0_4, ofs_1_0, ofs_1_1, ofs_1_2, ofs_1_3, ofs_1_4, ofs_1_5, ofs_2_1, ofs_2_2, ofs_2_3, ofs_2_4, ofs_2_6, ofs_2_7, ofs_2_8, ofs_3_0, ofs_3_1, ofs_3_2, ofs_3_3, ofs_4_1, ofs_4_2, ofs_4_3, ofs_4_4, ofs_4_5, ofs_4_6, ofs_4_7, ofs_5_1, ofs_5_2, ofs_5_3, ofs_5_4, ofs_5_6, ofs_6_1, ofs_6_2, ofs_6_3, ofs_6_4, ofs_7_0, ofs_8_0, ofs_8_1, ofs_8_2, ofs_8_8, ofs_9_1, ofs_9_2, ofs_9_4, ofs_9_5, ofs_9_6, ofs_10_0, ofs_10_7, ofs_10_8, ofs_10_9, ofs_10_10, ofs_10_11, ofs_10_12, ofs_10_13, ofs_10_14, ofs_10_15, ofs_11_0, ofs_11_1, ofs_11_2, ofs_11_3, ofs_11_4, ofs_11_6, ofs_11_17, ofs_11_18, ofs_11_19, ofs_11_20, ofs_11_21, ofs_11_22, ofs_11_23, ofs_11_24, ofs_11_25, ofs_11_26, ofs_11_27, ofs_11_28, ofs_11_29, ofs_11_30, ofs_11_31, ofs_11_33, ofs_11_34, ofs_11_35, ofs_11_36, ofs_11_37, ofs_11_43, ofs_11_44, ofs_11_45, ofs_11_47, ofs_11_48, ofs_11_49, ofs_11_50, ofs_11_51, ofs_11_52, ofs_11_54, ofs_11_55, ofs_11_56, ofs_11_57, ofs_11_59, ofs_11_60, ofs_11_61, ofs_11_62, ofs_11_63, ofs_11_64, ofs_11_65, ofs_11_66, ofs_11_67, ofs_11_68, ofs_11_71, ofs_11_74, ofs_11_75, ofs_11_76, ofs_11_77, ofs_11_78, gfS_of, ldI_of, w1, w2]
theorem spouseOf_sp {σ : Sg} {n : Int} {W H C : Int → Int} (h : MR σ n W H C) {d : Nat} {s x : Int} (hs : s = 0 ∨ s = 1) (h0 : 0 ≤ x) (h1 : x < n) : f_M_spouseOf (d + 2) (zI x) (zI s) σ = rI (zI (spF W H s x)) σ := by
  obtain ⟨-, n0, n6, hr⟩ := id h
  obtain ⟨w, c, a1, a2, a3, a4, -⟩ := hr x h0 h1
  have e2 := beforeW h (d := d) h0 h1
  have y1 : σ.1 106 x.toNat = zI (W x) := by rw [rd_k, toNat_c h0, w]
  rw [f_M_spouseOf_eq]
  unfold spF
  rcases hs with rfl | rfl
  all_goals simp (disch := first | assumption | omega) only [cI_rI, cV_rV, cJ_rJ, rZ_0, rZ_1, rZ_z0, rZ_z1, zI_lit, zI_ofNat, zI_add, zI_sub, zI_mul, zI_neg, Int.cast_ofNat_Int, Int.reduceNeg, Int.reduceAdd, Int.reduceSub, Int.reduceMul, zI_eq, zI_le, ix_zI, bnd_zI, toNat_c, Int.reduceEq, Int.reduceLT, Int.reduceNe, Int.reduceToNat, Int.reduceMul, Int.reduceAdd, Int.zero_add, if_true, if_false, reduceIte, Nat.reduceAdd, e2, bnd_zI, y1]
def nxt (W H C M : Int → Int) (k v : Int) : Int := 2 * goF W H C M k (v % 2) (v / 2) + k % 2
theorem nxt_bd {n : Int} {W H C M : Int → Int} (h : NmOk n W H C M) {k v : Int} (hk : 0 ≤ k) (hk' : k < 8) (h0 : 0 ≤ v) (h1 : v < 2 * n) : 0 ≤ nxt W H C M k v ∧ nxt W H C M k v < 2 * n := by
  have := goF_lt h (k := k) (s := v % 2) (x := v / 2) (by omega) (by omega)
  unfold nxt; omega
theorem next_sp {σ : Sg} {r : Nat} {n : Int} (h : RuleAt σ r n) {d : Nat} {k v : Int} (hk : 0 ≤ k) (hk' : k < 8) (h0 : 0 ≤ v) (h1 : v < 2 * n) : f_Row_next (d + 2) r (zI k) (zI v) σ = rI (zI (nxt (rd σ (r + 1)) (rd σ (r + 2)) (rd σ (r + 3)) (rd σ (r + 4)) k v)) σ := by
  have n6 : n ≤ 6 := h.2.2.1
  have e := go_sp h (d := d) (k := k) (s := v % 2) (x := v / 2) hk hk' (by omega) (by omega) (by omega) (by omega)
  rw [f_Row_next_eq, gdK_of h.1.s0, show (1 : Int32) = zI 1 from zI_lit 1, show (31 : Int32) = zI 31 from zI_lit 31, and1 h0 (by omega), shr1 h0 (by omega), e, cI_rI, sortBehind_sp hk hk', cI_rI, show (2 : Int32) = zI 2 from zI_lit 2, zI_mul, zI_add]
  rfl
theorem stateBy_sp {σ : Sg} {n : Int} {W H C M : Int → Int} (h : MR4 σ n W H C M) {d : Nat} {k v : Int} (hk : 0 ≤ k) (hk' : k < 8) (h0 : 0 ≤ v) (h1 : v < 2 * n) : f_M_stateBy (d + 3) (zI v) (zI k) σ = rI (zI (if canB k (v % 2) = true then nxt W H C M k v else -1)) σ := by
  have n6 : n ≤ 6 := h.1.2.2.1
  have e := nameBy_sp h (d := d) (k := k) (s := v % 2) (x := v / 2) hk hk' (by omega) (by omega) (by omega)
  have ec := canBe_sp (σ := σ) (d := d + 1) (k := k) (s := v % 2) hk hk' (by omega)
  have r2 : ∀ K : Int32 → Rs, rmI (zI v) 2 K = K (zI (v % 2)) := fun K => by rw [show (2 : Int32) = zI 2 from zI_lit 2]; exact rmI_nn h0 (by omega) (by decide) (by decide)
  have d2 : ∀ K : Int32 → Rs, dvI (zI v) 2 K = K (zI (v / 2)) := fun K => by rw [show (2 : Int32) = zI 2 from zI_lit 2]; exact dvI_nn h0 (by omega) (by decide) (by decide)
  rw [f_M_stateBy_eq, r2, ec, cI_rI]
  cases hc : canB k (v % 2) with
  | false => rw [bz_ff, if_pos (by decide), if_neg (by decide)]; rfl
  | true => rw [bz_tt, if_neg (by decide), if_pos rfl, d2, r2, e, cI_rI, sortBy_sp hk hk', cI_rI, show (2 : Int32) = zI 2 from zI_lit 2, zI_mul, zI_add]; rfl
theorem RuleAt.nm {σ : Sg} {r : Nat} {n : Int} (h : RuleAt σ r n) : NmOk n (rd σ (r + 1)) (rd σ (r + 2)) (rd σ (r + 3)) (rd σ (r + 4)) := h.2.2
/-! WORDS: how many -/
theorem ldJ_of {a n : Nat} {i : Int} {σ : Sg} {K : Int64 → Rs} (h : SH a = (15, n)) (h0 : 0 ≤ i) (h1 : i < n) (h2 : i < 2147483648) : ldJ a (zI i) σ K = K (σ.2.1 a i.toNat) := by
  unfold ldJ; rw [gdK_of (by rw [h]), h, ← ix_zI h0 h2]; exact bnd_zI h0 h1 h2
theorem stJ_of {a n : Nat} {i : Int} {v : Int64} {σ : Sg} {K : Sg → Rs} (h : SH a = (15, n)) (h0 : 0 ≤ i) (h1 : i < n) (h2 : i < 2147483648) : stJ a (zI i) v σ K = K (sJ σ a i.toNat v) := by
  unfold stJ; rw [gdK_of (by rw [h]), h, ← ix_zI h0 h2]; exact bnd_zI h0 h1 h2
theorem sJ_at (σ : Sg) (a k : Nat) (v : Int64) (b j : Nat) : (sJ σ a k v).2.1 b j = if b = a ∧ j = k then v else σ.2.1 b j := rfl
def upJ (v : Int → Int64) (k : Int) (x : Int64) : Int → Int64 := fun j => if j = k then x else v j
/-- what one code adds -/
def woAdd (W H C M : Int → Int) (u : Int → Int64) (c : Int) (acc : Int → Int64) : Int → Int64 := if canB (c % 8) (c / 8 % 2) = true then upJ acc (nxt W H C M (c % 8) (c / 8)) (acc (nxt W H C M (c % 8) (c / 8)) + u (c / 8)) else acc
def woAll (W H C M : Int → Int) (u : Int → Int64) : Nat → Int → (Int → Int64) → Int → Int64
  | 0, _, acc => acc
  | k + 1, c, acc => woAll W H C M u k (c + 1) (woAdd W H C M u c acc)
def woIt (W H C M : Int → Int) (n : Nat) : Nat → (Int → Int64) → Int → Int64
  | 0, u => u
  | k + 1, u => woIt W H C M n k (woAll W H C M u (16 * n) 0 (fun _ => 0))
def rowJ (σ : Sg) (a : Nat) (u : Int → Int64) : Prop := ∀ j : Int, 0 ≤ j → j < 12 → σ.2.1 a j.toNat = u j
theorem rowJ.put {σ : Sg} {a : Nat} {u : Int → Int64} (h : rowJ σ a u) {k : Int} (k0 : 0 ≤ k) (x : Int64) : rowJ (sJ σ a k.toNat x) a (upJ u k x) := fun j j0 j1 => by
  rw [sJ_at]; unfold upJ
  by_cases q : j = k
  · subst q; rw [if_pos ⟨rfl, rfl⟩, if_pos rfl]
  · rw [if_neg (by omega), if_neg q]; exact h j j0 j1
theorem rowJ.ne {σ : Sg} {a b : Nat} {u : Int → Int64} (h : rowJ σ a u) (hab : a ≠ b) (k : Nat) (x : Int64) : rowJ (sJ σ b k x) a u := fun j j0 j1 => by
  rw [sJ_at, if_neg (by omega)]; exact h j j0 j1
/-- the class: refs but the two rows are as they were -/
def WoR (σ0 σ : Sg) (tw nx : Nat) : Prop := σ.1 = σ0.1 ∧ (∀ a k, ¬(a = 61 ∧ (k = 7 ∨ k = 8)) → σ.2.2 a k = σ0.2.2 a k) ∧ σ.2.2 61 7 = tw ∧ σ.2.2 61 8 = nx
theorem WoR.J {σ0 σ : Sg} {tw nx : Nat} (h : WoR σ0 σ tw nx) (a k : Nat) (x : Int64) : WoR σ0 (sJ σ a k x) tw nx := h
theorem rd1 {σ σ0 : Sg} (h : σ.1 = σ0.1) : rd σ = rd σ0 := by funext a y; unfold rd; rw [h]
theorem fillJ_sp {a : Nat} (ha : SH a = (15, 12)) {v : Int64} {σ : Sg} {d : Nat} : ∃ σ', f_Arrays_fill_2J (d + 1) a v σ = rV σ' ∧ rowJ σ' a (fun _ => v) ∧ (∀ b u, b ≠ a → rowJ σ b u → rowJ σ' b u) ∧ σ'.1 = σ.1 ∧ σ'.2.2 = σ.2.2 := by
  have ea : alX sc0 a = fun K => K (zI 12) := by
    funext K; unfold alX; rw [ha]; show K (Int32.ofNat 12) = _; rw [zI_ofNat]; rfl
  have e0 : f_Arrays_fill_2J (d + 1) a v σ = f_Arrays_fill_2J_6 d a v (zI 0) (zI 12) σ := by
    rw [f_Arrays_fill_2J_eq]; show alX sc0 a _ = _; rw [ea, zI_0]
  rw [e0]
  refine zloop 12 (fun i (τ : Sg) => f_Arrays_fill_2J_6 d a v (zI i) (zI 12) τ) (fun i τ => 0 ≤ i ∧ (∀ j : Int, 0 ≤ j → j < i → τ.2.1 a j.toNat = v) ∧ (∀ b u, b ≠ a → rowJ σ b u → rowJ τ b u) ∧ τ.1 = σ.1 ∧ τ.2.2 = σ.2.2) (fun o => ∃ σ', o = rV σ' ∧ rowJ σ' a (fun _ => v) ∧ (∀ b u, b ≠ a → rowJ σ b u → rowJ σ' b u) ∧ σ'.1 = σ.1 ∧ σ'.2.2 = σ.2.2) ?_ ?_ 0 σ (by decide) ⟨by decide, fun j h0 h => by omega, fun b u _ h => h, rfl, rfl⟩
  · rintro i τ hi ⟨h0, h1, h2, e1, e2⟩
    refine Or.inr ⟨sJ τ a i.toNat v, ?_, by omega, fun j j0 hj => ?_, fun b u hb h => (h2 b u hb h).ne hb _ _, e1, e2⟩
    · show f_Arrays_fill_2J_6 d a v (zI i) (zI 12) τ = _
      rw [f_Arrays_fill_2J_6_eq, if_pos (by rw [zI_le (by omega) (by decide)]; exact hi), stJ_of ha h0 hi (by omega), zI_lit, zI_add]
    · rw [sJ_at]
      by_cases q : j = i
      · rw [if_pos ⟨rfl, by rw [q]⟩]
      · rw [if_neg (by omega)]; exact h1 j j0 (by omega)
  · rintro τ ⟨h0, h1, h2, e1, e2⟩
    refine ⟨τ, ?_, fun j j0 j1 => h1 j j0 j1, h2, e1, e2⟩
    show f_Arrays_fill_2J_6 d a v (zI 12) (zI 12) τ = _
    rw [f_Arrays_fill_2J_6_eq, if_neg Int32.lt_irrefl]
theorem oneStep_go {σ0 : Sg} {r : Nat} {n : Int} (hr : RuleAt σ0 r n) {d : Nat} {tw nx : Nat} (h2 : tw = 67 ∧ nx = 68 ∨ tw = 68 ∧ nx = 67) {u : Int → Int64} : ∀ (N : Nat) (c : Int) (acc : Int → Int64) (σ : Sg), 0 ≤ c → c + N = 16 * n → 0 < N → WoR σ0 σ tw nx → rowJ σ tw u → rowJ σ nx acc → ∃ σ', f_Row_addOneStep_22 (d + 2) r (zI (c / 8)) (zI (c % 8)) σ = rV σ' ∧ WoR σ0 σ' nx tw ∧ rowJ σ' nx (woAll (rd σ0 (r + 1)) (rd σ0 (r + 2)) (rd σ0 (r + 3)) (rd σ0 (r + 4)) u N c acc) ∧ rowJ σ' tw u
  | 0, _, _, _, _, _, h, _, _, _ => absurd h (by decide)
  | N + 1, c, acc, σ, c0, hc, _, hw, hu, hacc => by
    have n6 : n ≤ 6 := hr.2.2.1
    have hn0 : 0 < n := by omega
    have rs : RuleAt σ r n := by
      have := rd1 hw.1
      unfold RuleAt; rw [this]; exact hr
    have hS : SH tw = (15, 12) ∧ SH nx = (15, 12) := by rcases h2 with ⟨rfl, rfl⟩ | ⟨rfl, rfl⟩ <;> exact ⟨rfl, rfl⟩
    have hne : tw ≠ nx := by omega
    have cv : 0 ≤ c / 8 ∧ c / 8 < 2 * n := by omega
    have ck : 0 ≤ c % 8 ∧ c % 8 < 8 := by omega
    -- one code
    have one : ∃ σ1, f_Row_addOneStep_22 (d + 2) r (zI (c / 8)) (zI (c % 8)) σ = f_Row_addOneStep_22 (d + 2) r (zI (c / 8)) (zI (c % 8 + 1)) σ1 ∧ WoR σ0 σ1 tw nx ∧ rowJ σ1 tw u ∧ rowJ σ1 nx (woAdd (rd σ0 (r + 1)) (rd σ0 (r + 2)) (rd σ0 (r + 3)) (rd σ0 (r + 4)) u c acc) := by
      have ec := canStep_sp (σ := σ) (d := d + 1) (k := c % 8) (s := c / 8 % 2) ck.1 ck.2 (by omega)
      have a1 : zI (c / 8) &&& 1 = zI (c / 8 % 2) := by rw [show (1 : Int32) = zI 1 from zI_lit 1]; exact and1 cv.1 (by omega)
      have lt : zI (c % 8) < 8 := by rw [show (8 : Int32) = zI 8 from zI_lit 8, zI_le (by omega) (by decide)]; exact ck.2
      have i1 : zI (c % 8) + 1 = zI (c % 8 + 1) := by rw [zI_lit, zI_add]
      unfold woAdd
      rw [f_Row_addOneStep_22_eq, if_pos lt, a1, ec, cI_rI, i1]
      cases hcan : canB (c % 8) (c / 8 % 2) with
      | false =>
        rw [bz_ff, if_pos (by decide), if_neg (by decide)]
        exact ⟨σ, rfl, hw, hu, hacc⟩
      | true =>
        have en := next_sp rs (d := d) (k := c % 8) (v := c / 8) ck.1 ck.2 cv.1 cv.2
        have rdd := rd1 hw.1
        rw [rdd] at en
        have bd := nxt_bd hr.nm (k := c % 8) (v := c / 8) ck.1 ck.2 cv.1 cv.2
        generalize nxt (rd σ0 (r + 1)) (rd σ0 (r + 2)) (rd σ0 (r + 3)) (rd σ0 (r + 4)) (c % 8) (c / 8) = t at en bd
        refine ⟨sJ σ nx t.toNat (acc t + u (c / 8)), ?_, hw.J _ _ _, hu.ne hne _ _, ?_⟩
        · rw [bz_tt, if_neg (by decide), en, cI_rI, hw.2.2.2, hw.2.2.1, ldJ_of hS.2 bd.1 (by omega) (by omega), ldJ_of hS.1 cv.1 (by omega) (by omega), stJ_of hS.2 bd.1 (by omega) (by omega), hacc t bd.1 (by omega), hu (c / 8) cv.1 (by omega)]
        · rw [if_pos rfl]; exact hacc.put bd.1 _
    obtain ⟨σ1, e1, w1, u1, a1⟩ := one
    have fin : c % 8 = 7 → f_Row_addOneStep_22 (d + 2) r (zI (c / 8)) (zI (c % 8 + 1)) σ1 = f_Row_addOneStep_10 (d + 2) r (zI (c / 8 + 1)) (.int (zI 8)) σ1 := fun q => by
      rw [q, show (7 : Int) + 1 = 8 from rfl, f_Row_addOneStep_22_eq, show (8 : Int32) = zI 8 from zI_lit 8, if_neg Int32.lt_irrefl, show (1 : Int32) = zI 1 from zI_lit 1, zI_add]
    have rn : σ1.1 r 0 = zI n := by rw [w1.1]; exact (rd_k σ0 r 0).trans (congrArg zI hr.2.1)
    by_cases last : N = 0
    · subst last
      have q : c % 8 = 7 := by omega
      refine ⟨sR (sR σ1 61 7 nx) 61 8 tw, ?_, ⟨w1.1, fun a k hk => ?_, ?_, ?_⟩, a1, u1⟩
      · have nlt : ¬ zI (c / 8 + 1) < zI 2 * zI n := by rw [zI_mul, zI_le (by omega) (by omega)]; omega
        rw [e1, fin q, f_Row_addOneStep_10_eq, gfI_of hr.1.s0, rn, show (2 : Int32) = zI 2 from zI_lit 2, if_neg nlt]
        show rV (sR (sR σ1 61 7 (σ1.2.2 61 8)) 61 8 (σ1.2.2 61 7)) = _
        rw [w1.2.2.1, w1.2.2.2]
      · rw [sR_2, if_neg (by omega), sR_2, if_neg (by omega)]; exact w1.2.1 a k hk
      · rw [sR_2, if_neg (by omega), sR_2, if_pos ⟨rfl, rfl⟩]
      · rw [sR_2, if_pos ⟨rfl, rfl⟩]
    · obtain ⟨σ2, e2, w2, a2, u2⟩ := oneStep_go hr (d := d) h2 N (c + 1) _ σ1 (by omega) (by omega) (by omega) w1 u1 a1
      refine ⟨σ2, ?_, w2, a2, u2⟩
      rw [e1, ← e2]
      by_cases q : c % 8 = 7
      · have lt : zI (c / 8 + 1) < zI 2 * zI n := by rw [zI_mul, zI_le (by omega) (by omega)]; omega
        rw [fin q, f_Row_addOneStep_10_eq, gfI_of hr.1.s0, rn, show (2 : Int32) = zI 2 from zI_lit 2, if_pos lt, zI_0, show (c + 1) / 8 = c / 8 + 1 by omega, show (c + 1) % 8 = 0 by omega]
      · rw [show (c + 1) / 8 = c / 8 by omega, show (c + 1) % 8 = c % 8 + 1 by omega]
theorem oneStep_sp {σ0 σ : Sg} {r : Nat} {n : Int} (hr : RuleAt σ0 r n) (hn : 0 < n) {d : Nat} {tw nx : Nat} (h2 : tw = 67 ∧ nx = 68 ∨ tw = 68 ∧ nx = 67) {u : Int → Int64} (hw : WoR σ0 σ tw nx) (hu : rowJ σ tw u) : ∃ σ', f_Row_addOneStep (d + 3) r σ = rV σ' ∧ WoR σ0 σ' nx tw ∧ rowJ σ' nx (woAll (rd σ0 (r + 1)) (rd σ0 (r + 2)) (rd σ0 (r + 3)) (rd σ0 (r + 4)) u (16 * n.toNat) 0 (fun _ => 0)) := by
  have n6 : n ≤ 6 := hr.2.2.1
  have hS : SH nx = (15, 12) := by rcases h2 with ⟨rfl, rfl⟩ | ⟨rfl, rfl⟩ <;> rfl
  obtain ⟨σ1, e1, f1, k1, s1, s2⟩ := fillJ_sp hS (v := (0 : Int32).toInt64) (σ := σ) (d := d + 1)
  have w1 : WoR σ0 σ1 tw nx := ⟨s1.trans hw.1, by rw [s2]; exact hw.2.1, by rw [s2]; exact hw.2.2.1, by rw [s2]; exact hw.2.2.2⟩
  obtain ⟨σ2, e2, w2, a2, -⟩ := oneStep_go hr (d := d) h2 (16 * n.toNat) 0 _ σ1 (by decide) (by omega) (by omega) w1 (k1 tw u (by omega) hu) f1
  refine ⟨σ2, ?_, w2, a2⟩
  have rn : σ1.1 r 0 = zI n := by rw [w1.1]; exact (rd_k σ0 r 0).trans (congrArg zI hr.2.1)
  have lt : zI 0 < zI 2 * zI n := by rw [zI_mul, zI_le (by decide) (by omega)]; omega
  rw [f_Row_addOneStep_eq, hw.2.2.2, e1, cV_rV, zI_0, f_Row_addOneStep_10_eq, gfI_of hr.1.s0, rn, show (2 : Int32) = zI 2 from zI_lit 2, if_pos lt, zI_0]
  exact e2
theorem howMany_go {σ0 : Sg} {r : Nat} {n : Int} (hr : RuleAt σ0 r n) (hn : 0 < n) {d : Nat} {x3 : Value} {t m : Int} (t0 : 0 ≤ t) (t1 : t < 12) (hm : m ≤ 20) : ∀ (k : Nat) (i : Int) (u : Int → Int64) (tw nx : Nat) (σ : Sg), (tw = 67 ∧ nx = 68 ∨ tw = 68 ∧ nx = 67) → 0 ≤ i → i + k = m → WoR σ0 σ tw nx → rowJ σ tw u → ∃ σ' tw' nx', f_Row_howMany_18 (d + 3) r (zI m) x3 (zI t) (zI i) σ = rJ (woIt (rd σ0 (r + 1)) (rd σ0 (r + 2)) (rd σ0 (r + 3)) (rd σ0 (r + 4)) n.toNat k u t) σ' ∧ WoR σ0 σ' tw' nx' ∧ (tw' = 67 ∧ nx' = 68 ∨ tw' = 68 ∧ nx' = 67)
  | 0, i, u, tw, nx, σ, h2, i0, hi, hw, hu => by
    have : i = m := by omega
    subst this
    have hS : SH tw = (15, 12) := by rcases h2 with ⟨rfl, rfl⟩ | ⟨rfl, rfl⟩ <;> rfl
    refine ⟨σ, tw, nx, ?_, hw, h2⟩
    rw [f_Row_howMany_18_eq, if_neg Int32.lt_irrefl, hw.2.2.1, ldJ_of hS t0 t1 (by omega), hu t t0 t1]
    rfl
  | k + 1, i, u, tw, nx, σ, h2, i0, hi, hw, hu => by
    obtain ⟨σ1, e1, w1, a1⟩ := oneStep_sp hr hn (d := d) h2 hw hu
    obtain ⟨σ2, tw', nx', e2, w2, h2'⟩ := howMany_go hr hn (d := d) (x3 := x3) t0 t1 hm k (i + 1) _ nx tw σ1 (by omega) (by omega) (by omega) w1 a1
    refine ⟨σ2, tw', nx', ?_, w2, h2'⟩
    rw [f_Row_howMany_18_eq, if_pos (by rw [zI_le (by omega) (by omega)]; omega), e1, cV_rV, zI_lit, zI_add, e2]
    rfl
theorem howMany_sp {σ : Sg} {r : Nat} {n : Int} (hr : RuleAt σ r n) (hn : 0 < n) {d : Nat} {tw nx : Nat} (h2 : tw = 67 ∧ nx = 68 ∨ tw = 68 ∧ nx = 67) (r7 : σ.2.2 61 7 = tw) (r8 : σ.2.2 61 8 = nx) {s t m : Int} (s0 : 0 ≤ s) (s1 : s < 12) (t0 : 0 ≤ t) (t1 : t < 12) (m0 : 0 ≤ m) (hm : m ≤ 20) : ∃ σ' tw' nx', f_Row_howMany (d + 4) r (zI m) (zI s) (zI t) σ = rJ (woIt (rd σ (r + 1)) (rd σ (r + 2)) (rd σ (r + 3)) (rd σ (r + 4)) n.toNat m.toNat (fun j => if j = s then 1 else 0) t) σ' ∧ WoR σ σ' tw' nx' ∧ (tw' = 67 ∧ nx' = 68 ∨ tw' = 68 ∧ nx' = 67) := by
  have hS : SH tw = (15, 12) := by rcases h2 with ⟨rfl, rfl⟩ | ⟨rfl, rfl⟩ <;> rfl
  obtain ⟨σ1, e1, f1, k1, q1, q2⟩ := fillJ_sp hS (v := (0 : Int32).toInt64) (σ := σ) (d := d + 2)
  have w1 : WoR σ (sJ σ1 tw s.toNat ((1 : Int32).toInt64)) tw nx := ⟨q1, fun a k _ => by show σ1.2.2 a k = _; rw [q2], by show σ1.2.2 61 7 = _; rw [q2]; exact r7, by show σ1.2.2 61 8 = _; rw [q2]; exact r8⟩
  have u1 := f1.put s0 ((1 : Int32).toInt64)
  obtain ⟨σ2, tw', nx', e2, w2, h2'⟩ := howMany_go hr hn (d := d) (x3 := .int (zI s)) t0 t1 hm m.toNat 0 _ tw nx _ h2 (by decide) (by omega) w1 u1
  refine ⟨σ2, tw', nx', ?_, w2, h2'⟩
  rw [f_Row_howMany_eq, r7, e1, cV_rV, show σ1.2.2 61 7 = tw by rw [q2]; exact r7, stJ_of hS s0 s1 (by omega), zI_0, e2]
  rfl
