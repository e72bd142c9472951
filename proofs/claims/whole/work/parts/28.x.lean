/-! the law's code is run: the class and the reference come to the same -/
theorem ldi_of {a n : Nat} {i : Int} {σ : Sg} {K : Int32 → Rs} (h : SH a = (14, n)) (h0 : 0 ≤ i) (h1 : i < n) (h2 : i < 2147483648) : ldI a (zI i) σ K = K (σ.1 a i.toNat) := ldI_of h h0 h1 h2
def opV (c : Int) (x y : Int32) : Option Int32 := if c = 42 then some (x * y) else if c = 43 then some (x + y) else if c = 45 then some (x - y) else if c = 60 then some (bz (decide (x < y))) else if c = 61 then some (bz (decide (x = y))) else if c = 62 then some (bz (decide (y < x))) else if y = zI 0 then none else if c = 47 then some (x / y) else some (x % y)
def up (st : Int → Int32) (k : Int) (x : Int32) : Int → Int32 := fun j => if j = k then x else st j
def LSt (l la : Nat) (c w : Int → Int) (fac : Int → Int32) (dp : Int) (st : Int → Int32) (σ : Sg) : Prop := rd σ (l + 5) = c ∧ rd σ (l + 6) = w ∧ (∀ j : Int, 0 ≤ j → j < 8 → σ.1 la j.toNat = fac j) ∧ rd σ l 9 = dp ∧ rd σ l 10 = 0 ∧ ∀ j : Int, 0 ≤ j → j < dp → σ.1 (l + 7) j.toNat = st j
def SL (l : Nat) (a k : Nat) : Bool := (a == l && (k == 9 || k == 10)) || a == l + 7
theorem LSt.keep {l la : Nat} {c w : Int → Int} {fac st : Int → Int32} {dp : Int} {σ : Sg} (hl : isL l) (hla : la = 91 ∨ la = 96) (h : LSt l la c w fac dp st σ) {σ' : Sg} (F : Fr (SL l) σ σ') : rd σ' (l + 5) = c ∧ rd σ' (l + 6) = w ∧ (∀ j : Int, 0 ≤ j → j < 8 → σ'.1 la j.toNat = fac j) := by
  have hl := hl.le
  refine ⟨(fr_row F fun k => by simp [SL]).trans h.1, (fr_row F fun k => by simp [SL]).trans h.2.1, fun j h0 h8 => (F.2 la _ (by simp [SL]; omega)).trans (h.2.2.1 j h0 h8)⟩
theorem push_sp {l la : Nat} {c w : Int → Int} {fac st : Int → Int32} {dp : Int} {σ : Sg} (hl : isL l) (hla : la = 91 ∨ la = 96) (h : LSt l la c w fac dp st σ) (h0 : 0 ≤ dp) (h1 : dp < 64) {d : Nat} (x : Int32) : ∃ σ', f_Law_push (d + 1) l x σ = rV σ' ∧ LSt l la c w fac (dp + 1) (up st dp x) σ' ∧ Fr (SL l) σ σ' := by
  have s0 := hl.s0; have s7 := hl.s7; have hl' := hl.le
  have F : Fr (SL l) σ (sI (sI σ l 9 (zI (dp + 1))) (l + 7) dp.toNat x) := ((Fr.rf _ σ).sI _ (by simp [SL])).sI _ (by simp [SL])
  obtain ⟨k1, k2, k3⟩ := h.keep hl hla F
  obtain ⟨-, -, -, h9, h10, hst⟩ := h
  refine ⟨sI (sI σ l 9 (zI (dp + 1))) (l + 7) dp.toNat x, ?_, ⟨k1, k2, k3, ?_, ?_, fun j j0 j1 => ?_⟩, F⟩
  · have ea : alX sc0 (l + 7) = fun K => K (zI 64) := by rcases hl' with rfl | rfl <;> rfl
    rw [f_Law_push_eq]
    simp (disch := first | assumption | omega) only [cI_rI, cV_rV, cJ_rJ, rZ_0, rZ_1, rZ_z0, rZ_z1, zI_lit, zI_ofNat, zI_add, zI_sub, zI_mul, zI_neg, Int.cast_ofNat_Int, Int.reduceNeg, Int.reduceAdd, Int.reduceSub, Int.reduceMul, zI_eq, zI_le, ix_zI, bnd_zI, rd_k, toNat_c, Int.reduceEq, Int.reduceLT, Int.reduceNe, if_true, if_false, reduceIte, Nat.reduceAdd, ofs_0_0, ofs_0_1, ofs_0_2, ofs_0_3, ofs_0_4, ofs_1_0, ofs_1_1, ofs_1_2, ofs_1_3, ofs_1_4, ofs_1_5, ofs_2_1, ofs_2_2, ofs_2_3, ofs_2_4, ofs_2_6, ofs_2_7, ofs_2_8, ofs_3_0, ofs_3_1, ofs_3_2, ofs_3_3, ofs_4_1, ofs_4_2, ofs_4_3, ofs_4_4, ofs_4_5, ofs_4_6, ofs_4_7, ofs_5_1, ofs_5_2, ofs_5_3, ofs_5_4, ofs_5_6, ofs_6_1, ofs_6_2, ofs_6_3, ofs_6_4, ofs_7_0, ofs_8_0, ofs_8_1, ofs_8_2, ofs_8_8, ofs_9_1, ofs_9_2, ofs_9_4, ofs_9_5, ofs_9_6, ofs_10_0, ofs_10_7, ofs_10_8, ofs_10_9, ofs_10_10, ofs_10_11, ofs_10_12, ofs_10_13, ofs_10_14, ofs_10_15, ofs_11_0, ofs_11_1, ofs_11_2, ofs_11_3, ofs_11_4, ofs_11_6, ofs_11_17, ofs_11_18, ofs_11_19, ofs_11_20, ofs_11_21, ofs_11_22, ofs_11_23, ofs_11_24, ofs_11_25, ofs_11_26, ofs_11_27, ofs_11_28, ofs_11_29, ofs_11_30, ofs_11_31, ofs_11_33, ofs_11_34, ofs_11_35, ofs_11_36, ofs_11_37, ofs_11_43, ofs_11_44, ofs_11_45, ofs_11_47, ofs_11_48, ofs_11_49, ofs_11_50, ofs_11_51, ofs_11_52, ofs_11_54, ofs_11_55, ofs_11_56, ofs_11_57, ofs_11_59, ofs_11_60, ofs_11_61, ofs_11_62, ofs_11_63, ofs_11_64, ofs_11_65, ofs_11_66, ofs_11_67, ofs_11_68, ofs_11_71, ofs_11_74, ofs_11_75, ofs_11_76, ofs_11_77, ofs_11_78, gfI_of, gfS_of, pfI_of, stI_of, h9, ea]
    rw [if_pos h1]
  · simp (disch := first | assumption | omega) only [rd_other, rd_same]
  · rw [rd_other (by omega), rd_other (by omega), h10]
  · unfold up
    split
    · rename_i e; subst e; exact sI_same _ _ _ _
    · rw [sI_slot _ _ _ _ (by omega), sI_row _ _ _ _ _ (by omega), hst j j0 (by omega)]
theorem top_sp {l la : Nat} {c w : Int → Int} {fac st : Int → Int32} {dp : Int} {σ : Sg} (hl : isL l) (h : LSt l la c w fac dp st σ) (h0 : 0 < dp) (h1 : dp ≤ 64) {d : Nat} : f_Law_top (d + 1) l σ = rI (st (dp - 1)) σ := by
  have s0 := hl.s0; have s7 := hl.s7
  obtain ⟨-, -, -, h9, h10, hst⟩ := h
  have h9' : σ.1 l 9 = zI dp := (rd_k σ l 9).trans (congrArg zI h9)
  rw [f_Law_top_eq]
  simp (disch := first | assumption | omega) only [cI_rI, cV_rV, cJ_rJ, rZ_0, rZ_1, rZ_z0, rZ_z1, zI_lit, zI_ofNat, zI_add, zI_sub, zI_mul, zI_neg, Int.cast_ofNat_Int, Int.reduceNeg, Int.reduceAdd, Int.reduceSub, Int.reduceMul, zI_eq, zI_le, ix_zI, bnd_zI, ofs_0_0, ofs_0_1, ofs_0_2, ofs_0_3, ofs_0_4, ofs_1_0, ofs_1_1, ofs_1_2, ofs_1_3, ofs_1_4, ofs_1_5, ofs_2_1, ofs_2_2, ofs_2_3, ofs_2_4, ofs_2_6, ofs_2_7, ofs_2_8, ofs_3_0, ofs_3_1, ofs_3_2, ofs_3_3, ofs_4_1, ofs_4_2, ofs_4_3, ofs_4_4, ofs_4_5, ofs_4_6, ofs_4_7, ofs_5_1, ofs_5_2, ofs_5_3, ofs_5_4, ofs_5_6, ofs_6_1, ofs_6_2, ofs_6_3, ofs_6_4, ofs_7_0, ofs_8_0, ofs_8_1, ofs_8_2, ofs_8_8, ofs_9_1, ofs_9_2, ofs_9_4, ofs_9_5, ofs_9_6, ofs_10_0, ofs_10_7, ofs_10_8, ofs_10_9, ofs_10_10, ofs_10_11, ofs_10_12, ofs_10_13, ofs_10_14, ofs_10_15, ofs_11_0, ofs_11_1, ofs_11_2, ofs_11_3, ofs_11_4, ofs_11_6, ofs_11_17, ofs_11_18, ofs_11_19, ofs_11_20, ofs_11_21, ofs_11_22, ofs_11_23, ofs_11_24, ofs_11_25, ofs_11_26, ofs_11_27, ofs_11_28, ofs_11_29, ofs_11_30, ofs_11_31, ofs_11_33, ofs_11_34, ofs_11_35, ofs_11_36, ofs_11_37, ofs_11_43, ofs_11_44, ofs_11_45, ofs_11_47, ofs_11_48, ofs_11_49, ofs_11_50, ofs_11_51, ofs_11_52, ofs_11_54, ofs_11_55, ofs_11_56, ofs_11_57, ofs_11_59, ofs_11_60, ofs_11_61, ofs_11_62, ofs_11_63, ofs_11_64, ofs_11_65, ofs_11_66, ofs_11_67, ofs_11_68, ofs_11_71, ofs_11_74, ofs_11_75, ofs_11_76, ofs_11_77, ofs_11_78, gfI_of, gfS_of, h9', ldI_of]
  rw [if_pos h0, hst _ (by omega) (by omega)]
theorem pop_sp {l la : Nat} {c w : Int → Int} {fac st : Int → Int32} {dp : Int} {σ : Sg} (hl : isL l) (hla : la = 91 ∨ la = 96) (h : LSt l la c w fac dp st σ) (h0 : 0 < dp) (h1 : dp ≤ 64) {d : Nat} : ∃ σ', f_Law_pop (d + 2) l σ = rI (st (dp - 1)) σ' ∧ LSt l la c w fac (dp - 1) st σ' ∧ Fr (SL l) σ σ' := by
  have s0 := hl.s0; have s7 := hl.s7; have hl' := hl.le
  have F : Fr (SL l) σ (sI σ l 9 (zI (dp - 1))) := (Fr.rf _ σ).sI _ (by simp [SL])
  obtain ⟨k1, k2, k3⟩ := h.keep hl hla F
  have ht := top_sp hl h h0 h1 (d := d)
  obtain ⟨-, -, -, h9, h10, hst⟩ := h
  refine ⟨sI σ l 9 (zI (dp - 1)), ?_, ⟨k1, k2, k3, ?_, ?_, fun j j0 j1 => ?_⟩, F⟩
  · rw [f_Law_pop_eq]
    simp (disch := first | assumption | omega) only [cI_rI, cV_rV, cJ_rJ, rZ_0, rZ_1, rZ_z0, rZ_z1, zI_lit, zI_ofNat, zI_add, zI_sub, zI_mul, zI_neg, Int.cast_ofNat_Int, Int.reduceNeg, Int.reduceAdd, Int.reduceSub, Int.reduceMul, rd_k, toNat_c, Int.reduceEq, Int.reduceLT, Int.reduceNe, if_true, if_false, reduceIte, Nat.reduceAdd, ht, gdK_of, gfI_of, pfI_of, h9, mxI_zI]
    rw [show max 0 (dp - 1) = dp - 1 by omega]
  · simp (disch := first | assumption | omega) only [rd_same]
  · rw [rd_other (by omega), h10]
  · rw [sI_row _ _ _ _ _ (by omega), hst j j0 (by omega)]
theorem reckonN_sp {l : Nat} (hl : isL l) {d : Nat} {c : Int} (hc : c = 43 ∨ c = 45 ∨ c = 42 ∨ c = 47 ∨ c = 37 ∨ c = 60 ∨ c = 61 ∨ c = 62) (x y : Int32) (σ : Sg) : (∃ z, opV c x y = some z ∧ f_Law_reckon (d + 1) l (zI c) x y σ = rI z σ) ∨ opV c x y = none ∧ f_Law_reckon (d + 1) l (zI c) x y σ = rI (zI 0) (sI σ l 10 (zI 1)) := by
  have s0 := hl.s0
  rw [f_Law_reckon_eq]
  unfold opV
  rcases hc with rfl | rfl | rfl | rfl | rfl | rfl | rfl | rfl
  all_goals simp (disch := first | assumption | omega) only [cI_rI, cV_rV, cJ_rJ, rZ_0, rZ_1, rZ_z0, rZ_z1, zI_lit, zI_ofNat, zI_add, zI_sub, zI_mul, zI_neg, Int.cast_ofNat_Int, Int.reduceNeg, Int.reduceAdd, Int.reduceSub, Int.reduceMul, zI_eq, zI_le, ix_zI, bnd_zI, rd_k, toNat_c, Int.reduceEq, Int.reduceLT, Int.reduceNe, if_true, if_false, reduceIte, Nat.reduceAdd, pfZ_1]
  all_goals try exact Or.inl ⟨_, rfl, rfl⟩
  all_goals try (refine Or.inl ⟨_, rfl, ?_⟩; split <;> rename_i h <;> simp [h, bz]; done)
  all_goals by_cases hy : y = zI 0
  all_goals simp only [hy, if_true, if_false, dvI, rmI, cI_rI, cV_rV, cJ_rJ, rZ_0, rZ_1, rZ_z0, rZ_z1, zI_lit, zI_ofNat, zI_add, zI_sub, zI_mul, zI_neg, Int.cast_ofNat_Int, Int.reduceNeg, Int.reduceAdd, Int.reduceSub, Int.reduceMul]
  all_goals simp

theorem WX_lt {c w : Int → Int} : ∀ {f : Nat} {b : Bool} {p q k : Int}, WX c w f b p q k → p < q ∧ 1 ≤ k
  | 0, _, _, _, _, h => False.elim h
  | f + 1, false, p, q, k, h => by
    obtain ⟨h1, ⟨h2, -⟩ | ⟨m, a, b, -⟩⟩ := h
    · omega
    · have := WX_lt a; have := WX_lt b; omega
  | f + 1, true, p, q, k, h => by
    obtain ⟨h1, ⟨m, a, b, -⟩ | ⟨a, -⟩ | ⟨m, a, -, -, b⟩⟩ := h
    · have := WX_lt a; have := WX_lt b; omega
    · have := WX_lt a; omega
    · have := WX_lt a; have := WX_lt b; omega
/-- the class: from p to q the value v comes upon the stack; none: refused -/
def CSem (l la : Nat) (c w : Int → Int) (fac : Int → Int32) (p q k : Int) (v : Option Int32) : Prop := ∀ (d : Nat) (σ : Sg) (dp : Int) (st : Int → Int32) (to : Int) (x1 x6 : Value) (sk : Int), LSt l la c w fac dp st σ → 0 ≤ dp → dp + k ≤ 64 → q ≤ to → to ≤ 240 → 0 ≤ sk → sk ≤ p →
  (∃ x, v = some x ∧ ∃ σ' x6' sk', f_Law_run_16 (d + 5) l x1 (zI to) la (zI sk) (zI p) x6 σ = f_Law_run_16 (d + 5) l x1 (zI to) la (zI sk') (zI q) x6' σ' ∧ 0 ≤ sk' ∧ sk' ≤ q ∧ LSt l la c w fac (dp + 1) (up st dp x) σ' ∧ Fr (SL l) σ σ') ∨ v = none ∧ ∃ σ', f_Law_run_16 (d + 5) l x1 (zI to) la (zI sk) (zI p) x6 σ = rI (zI 0) σ' ∧ Fr (SL l) σ σ'
theorem skip_run {l la : Nat} {σ : Sg} (hl : isL l) (h10 : rd σ l 10 = 0) {d : Nat} {x1 x6 : Value} {to sk : Int} (ht : to ≤ 240) (hs : sk ≤ to) : ∀ (p : Int), 0 ≤ p → p ≤ sk → f_Law_run_16 d l x1 (zI to) la (zI sk) (zI p) x6 σ = f_Law_run_16 d l x1 (zI to) la (zI sk) (zI sk) x6 σ := by
  intro p h0 h1
  obtain ⟨k, hk⟩ : ∃ k : Nat, p + k = sk := ⟨(sk - p).toNat, by omega⟩
  induction k generalizing p with
  | zero => have : p = sk := by omega
            subst this; rfl
  | succ k ih =>
    have h10' : σ.1 l 10 = 0 := (rd_k σ l 10).trans (congrArg zI h10)
    have e1 : zI p < zI to := by rw [zI_le (by omega) (by omega)]; omega
    have e2 : zI p < zI sk := by rw [zI_le (by omega) (by omega)]; omega
    rw [f_Law_run_16_eq, if_pos e1, gfI_of hl.s0, if_pos h10', if_pos e2, zI_lit, zI_add]
    exact ih (p + 1) (by omega) (by omega) (by omega)
/-- what is known as a code is taken -/
theorem run_h {l la : Nat} {c w : Int → Int} {fac st : Int → Int32} {dp : Int} {σ : Sg} (h : LSt l la c w fac dp st σ) {p to sk : Int} (hp : 0 ≤ p) (ht : p < to) (ht' : to ≤ 240) (hs : 0 ≤ sk) (hs' : sk ≤ p) : zI p < zI to ∧ σ.1 l 10 = 0 ∧ ¬ zI p < zI sk ∧ σ.1 (l + 5) p.toNat = zI (c p) ∧ σ.1 (l + 6) p.toNat = zI (w p) ∧ zI p + 1 = zI (p + 1) ∧ p < (240 : Nat) ∧ p < 2147483648 := by
  obtain ⟨h1, h2, h3, h9, h10, hst⟩ := h
  refine ⟨by rw [zI_le (by omega) (by omega)]; omega, (rd_k σ l 10).trans (congrArg zI h10), by rw [zI_le (by omega) (by omega)]; omega, ?_, ?_, by rw [zI_lit, zI_add], by omega, by omega⟩
  · rw [rd_k, toNat_c hp, h1]
  · rw [rd_k, toNat_c hp, h2]
theorem run_num {l la : Nat} {c w : Int → Int} {fac st : Int → Int32} {dp : Int} {σ : Sg} (hl : isL l) (hla : la = 91 ∨ la = 96) (h : LSt l la c w fac dp st σ) (h0 : 0 ≤ dp) (h1 : dp < 64) {d : Nat} {p to sk : Int} (hp : 0 ≤ p) (ht : p < to) (ht' : to ≤ 240) (hs : 0 ≤ sk) (hs' : sk ≤ p) (x1 x6 : Value) (hc : c p = 35) :
    ∃ σ', f_Law_run_16 (d + 1) l x1 (zI to) la (zI sk) (zI p) x6 σ = f_Law_run_16 (d + 1) l x1 (zI to) la (zI sk) (zI (p + 1)) x6 σ' ∧ LSt l la c w fac (dp + 1) (up st dp (zI (w p))) σ' ∧ Fr (SL l) σ σ' := by
  obtain ⟨a1, a2, a3, a4, a5, a6, a7, a8⟩ := run_h h hp ht ht' hs hs'
  obtain ⟨σ', e, H⟩ := push_sp hl hla h h0 h1 (d := d) (zI (w p))
  refine ⟨σ', ?_, H⟩
  rw [hc] at a4
  rw [f_Law_run_16_eq, if_pos a1, gfI_of hl.s0, if_pos a2, if_neg a3, gfS_of hl.s0, ofs_2_6, ldC_of hl.s5 hp a7 a8, a4, if_neg (by decide), if_pos (by decide), gfS_of hl.s0, ofs_2_7, ldi_of hl.s6 hp a7 a8, a5, gdK_of hl.s0, e, cV_rV, a6]
theorem run_let {l la : Nat} {c w : Int → Int} {fac st : Int → Int32} {dp : Int} {σ : Sg} (hl : isL l) (hla : la = 91 ∨ la = 96) (h : LSt l la c w fac dp st σ) (h0 : 0 ≤ dp) (h1 : dp < 64) {d : Nat} {p to sk : Int} (hp : 0 ≤ p) (ht : p < to) (ht' : to ≤ 240) (hs : 0 ≤ sk) (hs' : sk ≤ p) (x1 x6 : Value) (hc : c p = 97) (hw : 0 ≤ w p ∧ w p < 8) :
    ∃ σ', f_Law_run_16 (d + 1) l x1 (zI to) la (zI sk) (zI p) x6 σ = f_Law_run_16 (d + 1) l x1 (zI to) la (zI sk) (zI (p + 1)) x6 σ' ∧ LSt l la c w fac (dp + 1) (up st dp (fac (w p))) σ' ∧ Fr (SL l) σ σ' := by
  obtain ⟨a1, a2, a3, a4, a5, a6, a7, a8⟩ := run_h h hp ht ht' hs hs'
  obtain ⟨σ', e, H⟩ := push_sp hl hla h h0 h1 (d := d) (fac (w p))
  refine ⟨σ', ?_, H⟩
  have hS : SH la = (14, 8) := by rcases hla with rfl | rfl <;> rfl
  rw [hc] at a4
  rw [f_Law_run_16_eq, if_pos a1, gfI_of hl.s0, if_pos a2, if_neg a3, gfS_of hl.s0, ofs_2_6, ldC_of hl.s5 hp a7 a8, a4, if_neg (by decide), if_neg (by decide), if_neg (by decide), if_pos (by decide), gfS_of hl.s0, ofs_2_7, ldi_of hl.s6 hp a7 a8, a5, ldi_of hS hw.1 (by omega) (by omega), h.2.2.1 _ hw.1 hw.2, gdK_of hl.s0, e, cV_rV, a6]
theorem run_not {l la : Nat} {c w : Int → Int} {fac st : Int → Int32} {dp : Int} {σ : Sg} (hl : isL l) (hla : la = 91 ∨ la = 96) (h : LSt l la c w fac (dp + 1) st σ) (h0 : 0 ≤ dp) (h1 : dp < 64) {d : Nat} {p to sk : Int} (hp : 0 ≤ p) (ht : p < to) (ht' : to ≤ 240) (hs : 0 ≤ sk) (hs' : sk ≤ p) (x1 x6 : Value) (hc : c p = 33) :
    ∃ σ', f_Law_run_16 (d + 2) l x1 (zI to) la (zI sk) (zI p) x6 σ = f_Law_run_16 (d + 2) l x1 (zI to) la (zI sk) (zI (p + 1)) x6 σ' ∧ LSt l la c w fac (dp + 1) (up st dp (1 - st dp)) σ' ∧ Fr (SL l) σ σ' := by
  obtain ⟨a1, a2, a3, a4, a5, a6, a7, a8⟩ := run_h h hp ht ht' hs hs'
  obtain ⟨σ1, e1, H1, F1⟩ := pop_sp hl hla h (by omega) (by omega) (d := d)
  rw [show dp + 1 - 1 = dp by omega] at e1 H1
  obtain ⟨σ', e, H, F⟩ := push_sp hl hla H1 h0 h1 (d := d + 1) (1 - st dp)
  refine ⟨σ', ?_, H, F1.tr F⟩
  rw [hc] at a4
  rw [f_Law_run_16_eq, if_pos a1, gfI_of hl.s0, if_pos a2, if_neg a3, gfS_of hl.s0, ofs_2_6, ldC_of hl.s5 hp a7 a8, a4, if_pos (by decide), gdK_of hl.s0, e1, cI_rI, gdK_of hl.s0, e, cV_rV, a6]
theorem run_and {l la : Nat} {c w : Int → Int} {fac st : Int → Int32} {dp : Int} {σ : Sg} (hl : isL l) (hla : la = 91 ∨ la = 96) (h : LSt l la c w fac (dp + 1) st σ) (h0 : 0 ≤ dp) (h1 : dp < 64) {d : Nat} {p to sk : Int} (hp : 0 ≤ p) (ht : p < to) (ht' : to ≤ 240) (hs : 0 ≤ sk) (hs' : sk ≤ p) (x1 x6 : Value) (hc : c p = 38) :
    (st dp = 0 ∧ f_Law_run_16 (d + 2) l x1 (zI to) la (zI sk) (zI p) x6 σ = f_Law_run_16 (d + 2) l x1 (zI to) la (zI (w p)) (zI (p + 1)) x6 σ) ∨ st dp ≠ 0 ∧ ∃ σ', f_Law_run_16 (d + 2) l x1 (zI to) la (zI sk) (zI p) x6 σ = f_Law_run_16 (d + 2) l x1 (zI to) la (zI sk) (zI (p + 1)) x6 σ' ∧ LSt l la c w fac dp st σ' ∧ Fr (SL l) σ σ' := by
  obtain ⟨a1, a2, a3, a4, a5, a6, a7, a8⟩ := run_h h hp ht ht' hs hs'
  have e0 := top_sp hl h (by omega) (by omega) (d := d + 1)
  rw [show dp + 1 - 1 = dp by omega] at e0
  rw [hc] at a4
  rw [f_Law_run_16_eq, if_pos a1, gfI_of hl.s0, if_pos a2, if_neg a3, gfS_of hl.s0, ofs_2_6, ldC_of hl.s5 hp a7 a8, a4, if_neg (by decide), if_neg (by decide), if_pos (by decide), gdK_of hl.s0, e0, cI_rI]
  by_cases hz : st dp = 0
  · left
    refine ⟨hz, ?_⟩
    rw [if_pos hz, gfS_of hl.s0, ofs_2_6, ldC_of hl.s5 hp a7 a8, a4, if_neg (by decide), if_pos rfl, gfS_of hl.s0, ofs_2_7, ldi_of hl.s6 hp a7 a8, a5, a6]
  · right
    obtain ⟨σ1, e1, H1, F1⟩ := pop_sp hl hla h (by omega) (by omega) (d := d)
    rw [show dp + 1 - 1 = dp by omega] at e1 H1
    refine ⟨hz, σ1, ?_, H1, F1⟩
    rw [if_neg hz, gfS_of hl.s0, ofs_2_6, ldC_of hl.s5 hp a7 a8, a4, if_neg (by decide), if_neg (by decide), gdK_of hl.s0, e1, cI_rI, a6]
theorem run_or {l la : Nat} {c w : Int → Int} {fac st : Int → Int32} {dp : Int} {σ : Sg} (hl : isL l) (hla : la = 91 ∨ la = 96) (h : LSt l la c w fac (dp + 1) st σ) (h0 : 0 ≤ dp) (h1 : dp < 64) {d : Nat} {p to sk : Int} (hp : 0 ≤ p) (ht : p < to) (ht' : to ≤ 240) (hs : 0 ≤ sk) (hs' : sk ≤ p) (x1 x6 : Value) (hc : c p = 124) :
    (st dp ≠ 0 ∧ f_Law_run_16 (d + 2) l x1 (zI to) la (zI sk) (zI p) x6 σ = f_Law_run_16 (d + 2) l x1 (zI to) la (zI (w p)) (zI (p + 1)) x6 σ) ∨ st dp = 0 ∧ ∃ σ', f_Law_run_16 (d + 2) l x1 (zI to) la (zI sk) (zI p) x6 σ = f_Law_run_16 (d + 2) l x1 (zI to) la (zI sk) (zI (p + 1)) x6 σ' ∧ LSt l la c w fac dp st σ' ∧ Fr (SL l) σ σ' := by
  obtain ⟨a1, a2, a3, a4, a5, a6, a7, a8⟩ := run_h h hp ht ht' hs hs'
  have e0 := top_sp hl h (by omega) (by omega) (d := d + 1)
  rw [show dp + 1 - 1 = dp by omega] at e0
  rw [hc] at a4
  rw [f_Law_run_16_eq, if_pos a1, gfI_of hl.s0, if_pos a2, if_neg a3, gfS_of hl.s0, ofs_2_6, ldC_of hl.s5 hp a7 a8, a4, if_neg (by decide), if_neg (by decide), if_neg (by decide), if_neg (by decide), if_pos (by decide), gdK_of hl.s0, e0, cI_rI]
  by_cases hz : st dp = 0
  · right
    obtain ⟨σ1, e1, H1, F1⟩ := pop_sp hl hla h (by omega) (by omega) (d := d)
    rw [show dp + 1 - 1 = dp by omega] at e1 H1
    refine ⟨hz, σ1, ?_, H1, F1⟩
    rw [if_pos hz, gfS_of hl.s0, ofs_2_6, ldC_of hl.s5 hp a7 a8, a4, if_pos (by decide), if_neg (by decide), gdK_of hl.s0, e1, cI_rI, a6]
  · left
    refine ⟨hz, ?_⟩
    rw [if_neg hz, gfS_of hl.s0, ofs_2_6, ldC_of hl.s5 hp a7 a8, a4, if_pos (by decide), if_pos rfl, gfS_of hl.s0, ofs_2_7, ldi_of hl.s6 hp a7 a8, a5, a6]
theorem run_op {l la : Nat} {c w : Int → Int} {fac st : Int → Int32} {dp : Int} {σ : Sg} (hl : isL l) (hla : la = 91 ∨ la = 96) (h : LSt l la c w fac (dp + 2) st σ) (h0 : 0 ≤ dp) (h1 : dp + 1 < 64) {d : Nat} {p to sk : Int} (hp : 0 ≤ p) (ht : p < to) (ht' : to ≤ 240) (hs : 0 ≤ sk) (hs' : sk ≤ p) (x1 x6 : Value) (hc : c p = 43 ∨ c p = 45 ∨ c p = 42 ∨ c p = 47 ∨ c p = 37 ∨ c p = 60 ∨ c p = 61 ∨ c p = 62) :
    (∃ z, opV (c p) (st dp) (st (dp + 1)) = some z ∧ ∃ σ' x6', f_Law_run_16 (d + 2) l x1 (zI to) la (zI sk) (zI p) x6 σ = f_Law_run_16 (d + 2) l x1 (zI to) la (zI sk) (zI (p + 1)) x6' σ' ∧ LSt l la c w fac (dp + 1) (up st dp z) σ' ∧ Fr (SL l) σ σ') ∨ opV (c p) (st dp) (st (dp + 1)) = none ∧ ∃ σ', f_Law_run_16 (d + 2) l x1 (zI to) la (zI sk) (zI p) x6 σ = rI (zI 0) σ' ∧ Fr (SL l) σ σ' := by
  obtain ⟨a1, a2, a3, a4, a5, a6, a7, a8⟩ := run_h h hp ht ht' hs hs'
  obtain ⟨σ1, e1, H1, F1⟩ := pop_sp hl hla h (by omega) (by omega) (d := d)
  rw [show dp + 2 - 1 = dp + 1 by omega] at e1 H1
  obtain ⟨σ2, e2, H2, F2⟩ := pop_sp hl hla H1 (by omega) (by omega) (d := d)
  rw [show dp + 1 - 1 = dp by omega] at e2 H2
  have a4' : σ1.1 (l + 5) p.toNat = zI (c p) := by rw [rd_k, toNat_c hp, H1.1]
  have hd : f_Law_run_16 (d + 2) l x1 (zI to) la (zI sk) (zI p) x6 σ = cI (f_Law_reckon (d + 2) l (zI (c p)) (st dp) (st (dp + 1)) σ2) fun v65 σ64 => gdK 2 l (cV (f_Law_push (d + 2) l v65 σ64) fun σ66 => f_Law_run_16 (d + 2) l x1 (zI to) la (zI sk) (zI p + 1) (.int (st (dp + 1))) σ66) := by
    have n1 : ¬ zI (c p) = 33 ∧ ¬ zI (c p) = 35 ∧ ¬ zI (c p) = 38 ∧ ¬ zI (c p) = 97 ∧ ¬ zI (c p) = 124 := by
      rcases hc with e | e | e | e | e | e | e | e <;> rw [e] <;> decide
    rw [f_Law_run_16_eq, if_pos a1, gfI_of hl.s0, if_pos a2, if_neg a3, gfS_of hl.s0, ofs_2_6, ldC_of hl.s5 hp a7 a8, a4, if_neg n1.1, if_neg n1.2.1, if_neg n1.2.2.1, if_neg n1.2.2.2.1, if_neg n1.2.2.2.2, gdK_of hl.s0, e1, cI_rI, gfS_of hl.s0, ofs_2_6, ldC_of hl.s5 hp a7 a8, a4', gdK_of hl.s0, e2, cI_rI, gdK_of hl.s0]
  rw [hd]
  rcases reckonN_sp hl hc (st dp) (st (dp + 1)) σ2 (d := d + 1) with ⟨z, e, e'⟩ | ⟨e, e'⟩
  · obtain ⟨σ3, e3, H3, F3⟩ := push_sp hl hla H2 h0 (by omega) (d := d + 1) z
    exact Or.inl ⟨z, e, σ3, _, by rw [e', cI_rI, gdK_of hl.s0, e3, cV_rV, a6], H3, (F1.tr F2).tr F3⟩
  · refine Or.inr ⟨e, ?_⟩
    have F3 : Fr (SL l) σ2 (sI σ2 l 10 (zI 1)) := (Fr.rf _ _).sI _ (by simp [SL])
    -- refused: what is pushed matters no more
    have s0 := hl.s0; have s7 := hl.s7; have hl' := hl.le
    have h9 : (sI σ2 l 10 (zI 1)).1 l 9 = zI dp := by rw [sI_slot _ _ _ _ (by decide)]; exact (rd_k σ2 l 9).trans (congrArg zI H2.2.2.2.1)
    have ea : alX sc0 (l + 7) = fun K => K (zI 64) := by rcases hl' with rfl | rfl <;> rfl
    have e4 : f_Law_push (d + 2) l (zI 0) (sI σ2 l 10 (zI 1)) = rV (sI (sI (sI σ2 l 10 (zI 1)) l 9 (zI (dp + 1))) (l + 7) dp.toNat (zI 0)) := by
      rw [f_Law_push_eq, gfI_of s0, gfS_of s0, ofs_2_8, h9]
      show (alX sc0 (l + 7) _) = _
      rw [ea]
      simp (disch := first | assumption | omega) only [cI_rI, cV_rV, cJ_rJ, rZ_0, rZ_1, rZ_z0, rZ_z1, zI_lit, zI_ofNat, zI_add, zI_sub, zI_mul, zI_neg, Int.cast_ofNat_Int, Int.reduceNeg, Int.reduceAdd, Int.reduceSub, Int.reduceMul, zI_eq, zI_le, ix_zI, bnd_zI, rd_k, toNat_c, Int.reduceEq, Int.reduceLT, Int.reduceNe, if_true, if_false, reduceIte, Nat.reduceAdd, ofs_0_0, ofs_0_1, ofs_0_2, ofs_0_3, ofs_0_4, ofs_1_0, ofs_1_1, ofs_1_2, ofs_1_3, ofs_1_4, ofs_1_5, ofs_2_1, ofs_2_2, ofs_2_3, ofs_2_4, ofs_2_6, ofs_2_7, ofs_2_8, ofs_3_0, ofs_3_1, ofs_3_2, ofs_3_3, ofs_4_1, ofs_4_2, ofs_4_3, ofs_4_4, ofs_4_5, ofs_4_6, ofs_4_7, ofs_5_1, ofs_5_2, ofs_5_3, ofs_5_4, ofs_5_6, ofs_6_1, ofs_6_2, ofs_6_3, ofs_6_4, ofs_7_0, ofs_8_0, ofs_8_1, ofs_8_2, ofs_8_8, ofs_9_1, ofs_9_2, ofs_9_4, ofs_9_5, ofs_9_6, ofs_10_0, ofs_10_7, ofs_10_8, ofs_10_9, ofs_10_10, ofs_10_11, ofs_10_12, ofs_10_13, ofs_10_14, ofs_10_15, ofs_11_0, ofs_11_1, ofs_11_2, ofs_11_3, ofs_11_4, ofs_11_6, ofs_11_17, ofs_11_18, ofs_11_19, ofs_11_20, ofs_11_21, ofs_11_22, ofs_11_23, ofs_11_24, ofs_11_25, ofs_11_26, ofs_11_27, ofs_11_28, ofs_11_29, ofs_11_30, ofs_11_31, ofs_11_33, ofs_11_34, ofs_11_35, ofs_11_36, ofs_11_37, ofs_11_43, ofs_11_44, ofs_11_45, ofs_11_47, ofs_11_48, ofs_11_49, ofs_11_50, ofs_11_51, ofs_11_52, ofs_11_54, ofs_11_55, ofs_11_56, ofs_11_57, ofs_11_59, ofs_11_60, ofs_11_61, ofs_11_62, ofs_11_63, ofs_11_64, ofs_11_65, ofs_11_66, ofs_11_67, ofs_11_68, ofs_11_71, ofs_11_74, ofs_11_75, ofs_11_76, ofs_11_77, ofs_11_78, gfI_of, gfS_of, pfI_of, stI_of]
      rw [if_pos (by omega)]
      have h9' : rd (sI σ2 l 10 (zI 1)) l 9 = dp := by rw [rd_other (by omega)]; exact H2.2.2.2.1
      simp (disch := first | assumption | omega) only [h9', zI_add, stI_of]
    generalize hσ : sI (sI (sI σ2 l 10 (zI 1)) l 9 (zI (dp + 1))) (l + 7) dp.toNat (zI 0) = σ3 at e4
    have F4 : Fr (SL l) σ2 σ3 := by rw [← hσ]; exact ((F3.sI _ (by simp [SL])).sI _ (by simp [SL]))
    have h10 : ¬ σ3.1 l 10 = 0 := by
      rw [← hσ, sI_row _ _ _ _ _ (by omega), sI_slot _ _ _ _ (by decide), sI_same]; decide
    refine ⟨σ3, ?_, (F1.tr F2).tr F4⟩
    rw [e', cI_rI, gdK_of hl.s0, e4, cV_rV, f_Law_run_16_eq]
    by_cases q : zI p + 1 < zI to
    · rw [if_pos q, gfI_of hl.s0, if_neg h10, gfI_of hl.s0, if_neg h10]; rfl
    · rw [if_neg q, gfI_of hl.s0, if_neg h10]; rfl

/-- the reference -/
def MSt (mc : Int → Int) (fac : Int → Int32) (dp : Int) (st : Int → Int32) (σ : Sg) : Prop := rd σ 115 = mc ∧ (∀ j : Int, 0 ≤ j → j < 8 → σ.1 121 j.toNat = fac j) ∧ ∀ j : Int, 0 ≤ j → j < dp → σ.1 120 j.toNat = st j
def S120 (a _k : Nat) : Bool := a == 120
theorem MSt.put {mc : Int → Int} {fac st : Int → Int32} {dp : Int} {σ : Sg} (h : MSt mc fac dp st σ) {k : Int} (h0 : 0 ≤ k) (h1 : k ≤ dp) (x : Int32) : MSt mc fac (k + 1) (up st k x) (sI σ 120 k.toNat x) ∧ Fr S120 σ (sI σ 120 k.toNat x) := by
  refine ⟨⟨?_, fun j j0 j8 => ?_, fun j j0 j1 => ?_⟩, (Fr.rf _ _).sI _ rfl⟩
  · rw [← h.1]; exact funext fun y => rd_other (by omega)
  · rw [sI_row _ _ _ _ _ (by omega)]; exact h.2.1 j j0 j8
  · unfold up
    split
    · rename_i e; subst e; exact sI_same _ _ _ _
    · rw [sI_slot _ _ _ _ (by omega), h.2.2 j j0 (by omega)]
def MSem (mc : Int → Int) (fac : Int → Int32) (p q k : Int) (v : Option Int32) : Prop := ∀ (d : Nat) (σ : Sg) (dp : Int) (st : Int → Int32) (to : Int) (x1 x6 x7 : Value), MSt mc fac dp st σ → 0 ≤ dp → dp + k ≤ 64 → q ≤ to → to ≤ 240 →
  (∃ x, v = some x ∧ ∃ σ' x6' x7', f_M_reckonsTo_16 (d + 1) x1 (zI to) (zI dp) (zI 0) (zI p) x6 x7 σ = f_M_reckonsTo_16 (d + 1) x1 (zI to) (zI (dp + 1)) (zI 0) (zI q) x6' x7' σ' ∧ MSt mc fac (dp + 1) (up st dp x) σ' ∧ Fr S120 σ σ') ∨ v = none ∧ ∃ σ', f_M_reckonsTo_16 (d + 1) x1 (zI to) (zI dp) (zI 0) (zI p) x6 x7 σ = rI (zI 0) σ' ∧ Fr S120 σ σ'
/-- a code is taken apart -/
theorem mrun_h {mc : Int → Int} {fac st : Int → Int32} {dp : Int} {σ : Sg} (h : MSt mc fac dp st σ) {d : Nat} {x1 x6 x7 : Value} {p to n o v : Int} (hp : 0 ≤ p) (ht : p < to) (ht' : to ≤ 240) (ho : 0 ≤ o) (ho' : o ≤ 12) (hv : 0 ≤ v) (hv' : v < 1048576) (e : mc p = 1048576 * o + v) : f_M_reckonsTo_16 d x1 (zI to) (zI n) (zI 0) (zI p) x6 x7 σ = f_M_reckonsTo_52 d x1 (zI to) (zI n) (zI 0) (zI (p + 1)) (zI o) (zI v) σ := by
  have e1 : zI p < zI to := by rw [zI_le (by omega) (by omega)]; omega
  have e2 : σ.1 115 p.toNat = zI (1048576 * o + v) := by rw [rd_k, toNat_c hp, h.1, e]
  rw [f_M_reckonsTo_16_eq, if_pos e1, bnd_zI hp (by omega) (by omega), ix_zI hp (by omega), e2, zI_lit, dvI_nn (by omega) (by omega) (by omega) (by omega), bnd_zI hp (by omega) (by omega), rmI_nn (by omega) (by omega) (by omega) (by omega), zI_lit, zI_add]
  rw [show (1048576 * o + v) / 1048576 = o by omega, show (1048576 * o + v) % 1048576 = v by omega]
