theorem c_seed {σ : Sg} {r p l : Nat} (h : Inv r p l σ) (a : Int32) : Same (f_N_seed 100 a) (f_M_seed 100 a) σ := by
  obtain ⟨a, rfl, ha⟩ := zI_ex a
  have hb := h.bits
  have hi := in_sp (σ := σ) (d := 98) (a := a) (b := 0) (c := 65535) ha (by decide) (by decide)
  by_cases q : 0 ≤ a ∧ a ≤ 65535
  · have hv := h.2.2.2.2.2.2.1
    have V := vOf_VC σ 87
    have hB : VB (rd σ r 0) (upI (vOf σ 87) 19 a) := by
      obtain ⟨b1, b2, b3, b4, b5, b6⟩ := hv.1.vb
      refine ⟨fun k k0 k1 => ?_, fun z z0 z1 z2 => ?_, ?_⟩
      · rw [upI_ne _ _ (by omega)]; exact b1 k k0 k1
      · rw [upI_ne (j := z) _ _ (by omega), upI_ne (j := 6 + z) _ _ (by omega), upI_ne (j := 12 + z) _ _ (by omega)]; exact b2 z z0 z1 z2
      · rw [upI_same, upI_ne (j := 18) _ _ (by omega)]; omega
    have eN : f_N_seed 100 (zI a) σ = rI (zI 1) (sI σ 87 4 (zI a)) := by
      rw [f_N_seed_eq]
      simp (disch := first | assumption | omega) only [cI_rI, cV_rV, cJ_rJ, rZ_0, rZ_1, rZ_z0, rZ_z1, zI_lit, zI_ofNat, zI_add, zI_sub, zI_mul, zI_neg, Int.cast_ofNat_Int, Int.reduceNeg, Int.reduceAdd, Int.reduceSub, Int.reduceMul, zI_eq, zI_le, ix_zI, bnd_zI, rd_k, toNat_c, Int.reduceEq, Int.reduceLT, Int.reduceNe, if_true, if_false, reduceIte, Nat.reduceAdd]
      rw [if_neg (by omega), if_neg (by omega)]
    have F : Fr (fun x k => (x == 87 && k == 4) || x == 103) σ (sI (sI σ 87 4 (zI a)) 103 19 (zI a)) := ((Fr.rf _ σ).sI _ rfl).sI _ rfl
    have hi' := in_sp (σ := sI σ 87 4 (zI a)) (d := 98) (a := a) (b := 0) (c := 65535) ha (by decide) (by decide)
    have eM : f_M_seed 100 (zI a) (sI σ 87 4 (zI a)) = rI (zI 1) (sI (sI σ 87 4 (zI a)) 103 19 (zI a)) := by
      rw [f_M_seed_eq]
      simp (disch := first | assumption | omega) only [cI_rI, cV_rV, cJ_rJ, rZ_0, rZ_1, rZ_z0, rZ_z1, zI_lit, zI_ofNat, zI_add, zI_sub, zI_mul, zI_neg, Int.cast_ofNat_Int, Int.reduceNeg, Int.reduceAdd, Int.reduceSub, Int.reduceMul, hi', bz_0, decide_eq_false_iff_not, bnd_zI, ix_zI, Int.reduceToNat]
      rw [if_neg (by omega)]
    refine ⟨_, _, _, r, p, l, eN, eM, h.vil F ?_ (v := upI (vOf σ 87) 19 a) ?_ ?_ ?_ hB ?_⟩
    · refine dx_of hb ?_ ?_ (by rcases hb.2.2 with rfl | rfl <;> rfl) (by rcases hb.2.2 with rfl | rfl <;> repeat (first | exact trivial | refine ⟨fun _ => rfl, ?_⟩ | refine ⟨rfl, ?_⟩))
      all_goals repeat (first | exact trivial | refine ⟨fun _ => rfl, ?_⟩ | refine ⟨rfl, ?_⟩)
    · intro x x0 x6
      rw [sI_row _ _ _ _ _ (by decide), sI_row _ _ _ _ _ (by decide), sI_row _ _ _ _ _ (by decide), sI_row _ _ _ _ _ (by decide), sI_row _ _ _ _ _ (by decide), sI_row _ _ _ _ _ (by decide), upI_ne _ _ (by omega), upI_ne _ _ (by omega), upI_ne _ _ (by omega)]
      exact V.1 x x0 x6
    · rw [upI_ne _ _ (by decide)]; exact V.2.1
    · rw [upI_same]; rfl
    · intro k k0 k1
      by_cases z : k = 19
      · subst z; rw [upI_same]; rfl
      · rw [sI_slot _ _ _ _ (by omega), sI_row _ _ _ _ _ (by decide), upI_ne _ _ z]; exact hv.2.vm k k0 k1
  · have eN : f_N_seed 100 (zI a) σ = rI (zI 0) σ := by
      rw [f_N_seed_eq]
      simp (disch := first | assumption | omega) only [cI_rI, cV_rV, cJ_rJ, rZ_0, rZ_1, rZ_z0, rZ_z1, zI_lit, zI_ofNat, zI_add, zI_sub, zI_mul, zI_neg, Int.cast_ofNat_Int, Int.reduceNeg, Int.reduceAdd, Int.reduceSub, Int.reduceMul, zI_eq, zI_le, ix_zI, bnd_zI, rd_k, toNat_c, Int.reduceEq, Int.reduceLT, Int.reduceNe, if_true, if_false, reduceIte, Nat.reduceAdd]
      repeat' split
      all_goals first | rfl | omega
    have eM : f_M_seed 100 (zI a) σ = rI (zI 0) σ := by
      rw [f_M_seed_eq]
      simp (disch := first | assumption | omega) only [cI_rI, cV_rV, cJ_rJ, rZ_0, rZ_1, rZ_z0, rZ_z1, zI_lit, zI_ofNat, zI_add, zI_sub, zI_mul, zI_neg, Int.cast_ofNat_Int, Int.reduceNeg, Int.reduceAdd, Int.reduceSub, Int.reduceMul, hi, bz_0, decide_eq_false_iff_not]
      rw [if_pos q]
    exact ⟨_, _, _, r, p, l, eN, eM, h⟩
def vMo (σ : Sg) : Int → Int := fun k => if k < 20 then vOf σ 87 k else if k = 20 then rd σ 102 79 else if k = 21 then rd σ 102 80 else rd σ 102 81
theorem vMo_lt (σ : Sg) {k : Int} (h : k < 20) : vMo σ k = vOf σ 87 k := if_pos h
theorem vMo_VM {σ : Sg} (h : ∀ k : Int, 0 ≤ k → k < 20 → σ.1 103 k.toNat = zI (vOf σ 87 k)) : VM (vMo σ) σ := by
  refine ⟨fun k k0 k1 => ?_, rd_k _ _ _, rd_k _ _ _, rd_k _ _ _⟩
  rw [vMo_lt σ k1]; exact h k k0 k1
theorem some_sp {σ : Sg} {a : Nat} {v : Int → Int} (ha : (SH a).1 = 8) (s1 : SH (a + 1) = (14, 6)) (s2 : SH (a + 2) = (14, 6)) (s3 : SH (a + 3) = (14, 6)) (hv : VR a v σ) {d : Nat} {x w : Int} (h0 : 0 ≤ x) (h1 : x < 6) (hw : 0 ≤ w ∧ w ≤ 2) : f_Village_some (d + 1) a (zI x) (zI w) σ = rI (zI (v (6 * w + x))) σ := by
  obtain ⟨e1, e2, e3⟩ := hv x h0 h1
  rw [f_Village_some_eq]
  rcases (show w = 0 ∨ w = 1 ∨ w = 2 by omega) with rfl | rfl | rfl
  · simp (disch := first | assumption | omega) only [cI_rI, cV_rV, cJ_rJ, rZ_0, rZ_1, rZ_z0, rZ_z1, zI_lit, zI_ofNat, zI_add, zI_sub, zI_mul, zI_neg, Int.cast_ofNat_Int, Int.reduceNeg, Int.reduceAdd, Int.reduceSub, Int.reduceMul, zI_eq, zI_le, ix_zI, bnd_zI, toNat_c, Int.reduceEq, Int.reduceLT, Int.reduceNe, Int.reduceToNat, Int.reduceMul, Int.reduceAdd, Int.zero_add, if_true, if_false, reduceIte, Nat.reduceAdd, ofs_0_0, ofs_0_1, ofs_0_2, ofs_0_3, ofs_0_4, ofs_1_0, ofs_1_1, ofs_1_2, ofs_1_3, ofs_1_4, ofs_1_5, ofs_2_1, ofs_2_2, ofs_2_3, ofs_2_4, ofs_2_6, ofs_2_7, ofs_2_8, ofs_3_0, ofs_3_1, ofs_3_2, ofs_3_3, ofs_4_1, ofs_4_2, ofs_4_3, ofs_4_4, ofs_4_5, ofs_4_6, ofs_4_7, ofs_5_1, ofs_5_2, ofs_5_3, ofs_5_4, ofs_5_6, ofs_6_1, ofs_6_2, ofs_6_3, ofs_6_4, ofs_7_0, ofs_8_0, ofs_8_1, ofs_8_2, ofs_8_8, ofs_9_1, ofs_9_2, ofs_9_4, ofs_9_5, ofs_9_6, ofs_10_0, ofs_10_7, ofs_10_8, ofs_10_9, ofs_10_10, ofs_10_11, ofs_10_12, ofs_10_13, ofs_10_14, ofs_10_15, ofs_11_0, ofs_11_1, ofs_11_2, ofs_11_3, ofs_11_4, ofs_11_6, ofs_11_17, ofs_11_18, ofs_11_19, ofs_11_20, ofs_11_21, ofs_11_22, ofs_11_23, ofs_11_24, ofs_11_25, ofs_11_26, ofs_11_27, ofs_11_28, ofs_11_29, ofs_11_30, ofs_11_31, ofs_11_33, ofs_11_34, ofs_11_35, ofs_11_36, ofs_11_37, ofs_11_43, ofs_11_44, ofs_11_45, ofs_11_47, ofs_11_48, ofs_11_49, ofs_11_50, ofs_11_51, ofs_11_52, ofs_11_54, ofs_11_55, ofs_11_56, ofs_11_57, ofs_11_59, ofs_11_60, ofs_11_61, ofs_11_62, ofs_11_63, ofs_11_64, ofs_11_65, ofs_11_66, ofs_11_67, ofs_11_68, ofs_11_71, ofs_11_74, ofs_11_75, ofs_11_76, ofs_11_77, ofs_11_78, gfS_of, ldI_of, e1]
  · simp (disch := first | assumption | omega) only [cI_rI, cV_rV, cJ_rJ, rZ_0, rZ_1, rZ_z0, rZ_z1, zI_lit, zI_ofNat, zI_add, zI_sub, zI_mul, zI_neg, Int.cast_ofNat_Int, Int.reduceNeg, Int.reduceAdd, Int.reduceSub, Int.reduceMul, zI_eq, zI_le, ix_zI, bnd_zI, toNat_c, Int.reduceEq, Int.reduceLT, Int.reduceNe, Int.reduceToNat, Int.reduceMul, Int.reduceAdd, Int.zero_add, if_true, if_false, reduceIte, Nat.reduceAdd, ofs_0_0, ofs_0_1, ofs_0_2, ofs_0_3, ofs_0_4, ofs_1_0, ofs_1_1, ofs_1_2, ofs_1_3, ofs_1_4, ofs_1_5, ofs_2_1, ofs_2_2, ofs_2_3, ofs_2_4, ofs_2_6, ofs_2_7, ofs_2_8, ofs_3_0, ofs_3_1, ofs_3_2, ofs_3_3, ofs_4_1, ofs_4_2, ofs_4_3, ofs_4_4, ofs_4_5, ofs_4_6, ofs_4_7, ofs_5_1, ofs_5_2, ofs_5_3, ofs_5_4, ofs_5_6, ofs_6_1, ofs_6_2, ofs_6_3, ofs_6_4, ofs_7_0, ofs_8_0, ofs_8_1, ofs_8_2, ofs_8_8, ofs_9_1, ofs_9_2, ofs_9_4, ofs_9_5, ofs_9_6, ofs_10_0, ofs_10_7, ofs_10_8, ofs_10_9, ofs_10_10, ofs_10_11, ofs_10_12, ofs_10_13, ofs_10_14, ofs_10_15, ofs_11_0, ofs_11_1, ofs_11_2, ofs_11_3, ofs_11_4, ofs_11_6, ofs_11_17, ofs_11_18, ofs_11_19, ofs_11_20, ofs_11_21, ofs_11_22, ofs_11_23, ofs_11_24, ofs_11_25, ofs_11_26, ofs_11_27, ofs_11_28, ofs_11_29, ofs_11_30, ofs_11_31, ofs_11_33, ofs_11_34, ofs_11_35, ofs_11_36, ofs_11_37, ofs_11_43, ofs_11_44, ofs_11_45, ofs_11_47, ofs_11_48, ofs_11_49, ofs_11_50, ofs_11_51, ofs_11_52, ofs_11_54, ofs_11_55, ofs_11_56, ofs_11_57, ofs_11_59, ofs_11_60, ofs_11_61, ofs_11_62, ofs_11_63, ofs_11_64, ofs_11_65, ofs_11_66, ofs_11_67, ofs_11_68, ofs_11_71, ofs_11_74, ofs_11_75, ofs_11_76, ofs_11_77, ofs_11_78, gfS_of, ldI_of, e2]
  · simp (disch := first | assumption | omega) only [cI_rI, cV_rV, cJ_rJ, rZ_0, rZ_1, rZ_z0, rZ_z1, zI_lit, zI_ofNat, zI_add, zI_sub, zI_mul, zI_neg, Int.cast_ofNat_Int, Int.reduceNeg, Int.reduceAdd, Int.reduceSub, Int.reduceMul, zI_eq, zI_le, ix_zI, bnd_zI, toNat_c, Int.reduceEq, Int.reduceLT, Int.reduceNe, Int.reduceToNat, Int.reduceMul, Int.reduceAdd, Int.zero_add, if_true, if_false, reduceIte, Nat.reduceAdd, ofs_0_0, ofs_0_1, ofs_0_2, ofs_0_3, ofs_0_4, ofs_1_0, ofs_1_1, ofs_1_2, ofs_1_3, ofs_1_4, ofs_1_5, ofs_2_1, ofs_2_2, ofs_2_3, ofs_2_4, ofs_2_6, ofs_2_7, ofs_2_8, ofs_3_0, ofs_3_1, ofs_3_2, ofs_3_3, ofs_4_1, ofs_4_2, ofs_4_3, ofs_4_4, ofs_4_5, ofs_4_6, ofs_4_7, ofs_5_1, ofs_5_2, ofs_5_3, ofs_5_4, ofs_5_6, ofs_6_1, ofs_6_2, ofs_6_3, ofs_6_4, ofs_7_0, ofs_8_0, ofs_8_1, ofs_8_2, ofs_8_8, ofs_9_1, ofs_9_2, ofs_9_4, ofs_9_5, ofs_9_6, ofs_10_0, ofs_10_7, ofs_10_8, ofs_10_9, ofs_10_10, ofs_10_11, ofs_10_12, ofs_10_13, ofs_10_14, ofs_10_15, ofs_11_0, ofs_11_1, ofs_11_2, ofs_11_3, ofs_11_4, ofs_11_6, ofs_11_17, ofs_11_18, ofs_11_19, ofs_11_20, ofs_11_21, ofs_11_22, ofs_11_23, ofs_11_24, ofs_11_25, ofs_11_26, ofs_11_27, ofs_11_28, ofs_11_29, ofs_11_30, ofs_11_31, ofs_11_33, ofs_11_34, ofs_11_35, ofs_11_36, ofs_11_37, ofs_11_43, ofs_11_44, ofs_11_45, ofs_11_47, ofs_11_48, ofs_11_49, ofs_11_50, ofs_11_51, ofs_11_52, ofs_11_54, ofs_11_55, ofs_11_56, ofs_11_57, ofs_11_59, ofs_11_60, ofs_11_61, ofs_11_62, ofs_11_63, ofs_11_64, ofs_11_65, ofs_11_66, ofs_11_67, ofs_11_68, ofs_11_71, ofs_11_74, ofs_11_75, ofs_11_76, ofs_11_77, ofs_11_78, gfS_of, ldI_of, e3]
theorem c_nameIs {σ : Sg} {r p l : Nat} (h : Inv r p l σ) (a b : Int32) : Same (f_N_nameIs 100 a b) (f_M_nameIs 100 a b) σ := by
  obtain ⟨a, rfl, ha⟩ := zI_ex a
  obtain ⟨b, rfl, hb⟩ := zI_ex b
  obtain ⟨n1, n2, n3, n4⟩ := h.n
  have eN := isName_sp n1 n2 rfl n3 (d := 98) ha
  have eM := isNameM_sp n4 n3 (d := 97) ha
  by_cases q : 0 ≤ a ∧ a < rd σ r 0
  · have hv := h.2.2.2.2.2.2.1
    have V := vOf_VC σ 87
    have hr := h.2.2.1
    have mr := hr.mr
    have vm : ∀ k : Int, 0 ≤ k → k < 20 → σ.1 103 k.toNat = zI (vOf σ 87 k) := hv.2.vm
    have VMm := vMo_VM vm
    rw [decide_eq_true q] at eN eM
    suffices H : ∃ v, f_N_nameIs 100 (zI a) (zI b) σ = rI v σ ∧ f_M_nameIs 100 (zI a) (zI b) σ = rI v σ by
      obtain ⟨v, e1, e2⟩ := H
      exact ⟨v, σ, σ, r, p, l, e1, e2, h⟩
    obtain ⟨-, -, -, mr'⟩ := id mr
    obtain ⟨w1, w2, -⟩ := mr' a q.1 q.2
    have hR := h.1.1
    have s0 := hR.s0; have s1 := hR.s1; have s3 := hR.s3
    have y1 : σ.1 106 a.toNat = zI (rd σ (r + 1) a) := by rw [rd_k, toNat_c q.1, w1]
    have y2 : σ.1 107 a.toNat = zI (rd σ (r + 3) a) := by rw [rd_k, toNat_c q.1, w2]
    have y3 : σ.1 (r + 1) a.toNat = zI (rd σ (r + 1) a) := by rw [rd_k, toNat_c q.1]
    have y4 : σ.1 (r + 3) a.toNat = zI (rd σ (r + 3) a) := by rw [rd_k, toNat_c q.1]
    rw [f_N_nameIs_eq, f_M_nameIs_eq, eN, eM, cI_rI, cI_rI, bz_tt]
    have z0 := vm a q.1 (by omega); have z1 := vm (6 + a) (by omega) (by omega); have z2 := vm (12 + a) (by omega) (by omega)
    by_cases b0 : b = 0
    · subst b0
      have := some_sp (a := 87) rfl rfl rfl rfl V.1 (d := 98) (w := 0) q.1 (by omega) (by decide)
      refine ⟨zI (vOf σ 87 a), ?_, ?_⟩
      · simp (disch := first | assumption | omega) only [cI_rI, cV_rV, cJ_rJ, rZ_0, rZ_1, rZ_z0, rZ_z1, zI_lit, zI_ofNat, zI_add, zI_sub, zI_mul, zI_neg, Int.cast_ofNat_Int, Int.reduceNeg, Int.reduceAdd, Int.reduceSub, Int.reduceMul, zI_eq, zI_le, ix_zI, bnd_zI, toNat_c, Int.reduceEq, Int.reduceLT, Int.reduceNe, Int.reduceToNat, Int.reduceMul, Int.reduceAdd, Int.zero_add, if_true, if_false, reduceIte, Nat.reduceAdd, this]
      · simp (disch := first | assumption | omega) only [cI_rI, cV_rV, cJ_rJ, rZ_0, rZ_1, rZ_z0, rZ_z1, zI_lit, zI_ofNat, zI_add, zI_sub, zI_mul, zI_neg, Int.cast_ofNat_Int, Int.reduceNeg, Int.reduceAdd, Int.reduceSub, Int.reduceMul, zI_eq, zI_le, ix_zI, bnd_zI, toNat_c, Int.reduceEq, Int.reduceLT, Int.reduceNe, Int.reduceToNat, Int.reduceMul, Int.reduceAdd, Int.zero_add, if_true, if_false, reduceIte, Nat.reduceAdd, bnd_zI, Int.zero_add, z0]
    by_cases b1 : b = 1
    · subst b1
      have := some_sp (a := 87) rfl rfl rfl rfl V.1 (d := 98) (w := 1) q.1 (by omega) (by decide)
      refine ⟨zI (vOf σ 87 (6 + a)), ?_, ?_⟩
      · simp (disch := first | assumption | omega) only [cI_rI, cV_rV, cJ_rJ, rZ_0, rZ_1, rZ_z0, rZ_z1, zI_lit, zI_ofNat, zI_add, zI_sub, zI_mul, zI_neg, Int.cast_ofNat_Int, Int.reduceNeg, Int.reduceAdd, Int.reduceSub, Int.reduceMul, zI_eq, zI_le, ix_zI, bnd_zI, toNat_c, Int.reduceEq, Int.reduceLT, Int.reduceNe, Int.reduceToNat, Int.reduceMul, Int.reduceAdd, Int.zero_add, if_true, if_false, reduceIte, Nat.reduceAdd, this]
      · simp (disch := first | assumption | omega) only [cI_rI, cV_rV, cJ_rJ, rZ_0, rZ_1, rZ_z0, rZ_z1, zI_lit, zI_ofNat, zI_add, zI_sub, zI_mul, zI_neg, Int.cast_ofNat_Int, Int.reduceNeg, Int.reduceAdd, Int.reduceSub, Int.reduceMul, zI_eq, zI_le, ix_zI, bnd_zI, toNat_c, Int.reduceEq, Int.reduceLT, Int.reduceNe, Int.reduceToNat, Int.reduceMul, Int.reduceAdd, Int.zero_add, if_true, if_false, reduceIte, Nat.reduceAdd, bnd_zI, Int.zero_add, z1]
    by_cases b2 : b = 2
    · subst b2
      have := some_sp (a := 87) rfl rfl rfl rfl V.1 (d := 98) (w := 2) q.1 (by omega) (by decide)
      refine ⟨zI (vOf σ 87 (12 + a)), ?_, ?_⟩
      · simp (disch := first | assumption | omega) only [cI_rI, cV_rV, cJ_rJ, rZ_0, rZ_1, rZ_z0, rZ_z1, zI_lit, zI_ofNat, zI_add, zI_sub, zI_mul, zI_neg, Int.cast_ofNat_Int, Int.reduceNeg, Int.reduceAdd, Int.reduceSub, Int.reduceMul, zI_eq, zI_le, ix_zI, bnd_zI, toNat_c, Int.reduceEq, Int.reduceLT, Int.reduceNe, Int.reduceToNat, Int.reduceMul, Int.reduceAdd, Int.zero_add, if_true, if_false, reduceIte, Nat.reduceAdd, this]
      · simp (disch := first | assumption | omega) only [cI_rI, cV_rV, cJ_rJ, rZ_0, rZ_1, rZ_z0, rZ_z1, zI_lit, zI_ofNat, zI_add, zI_sub, zI_mul, zI_neg, Int.cast_ofNat_Int, Int.reduceNeg, Int.reduceAdd, Int.reduceSub, Int.reduceMul, zI_eq, zI_le, ix_zI, bnd_zI, toNat_c, Int.reduceEq, Int.reduceLT, Int.reduceNe, Int.reduceToNat, Int.reduceMul, Int.reduceAdd, Int.zero_add, if_true, if_false, reduceIte, Nat.reduceAdd, bnd_zI, Int.zero_add, z2]
    by_cases b3 : b = 3
    · subst b3
      have e1 := allOf_sp (a := 87) rfl rfl rfl rfl V.1 hr.1 (d := 98) q.1 q.2
      have e2 := allOfM_sp VMm mr (d := 97) q.1 q.2
      have c3 := (hr.1.bd q.1 q.2).2.2.2.2
      rw [vMo_lt σ (by omega), vMo_lt σ (by omega), vMo_lt σ (by omega), vMo_lt σ (by omega)] at e2
      refine ⟨zI (vOf σ 87 a + vOf σ 87 (6 + a) + vOf σ 87 (12 + a) + vOf σ 87 (12 + rd σ (r + 2) a)), ?_, ?_⟩
      · simp (disch := first | assumption | omega) only [cI_rI, cV_rV, cJ_rJ, rZ_0, rZ_1, rZ_z0, rZ_z1, zI_lit, zI_ofNat, zI_add, zI_sub, zI_mul, zI_neg, Int.cast_ofNat_Int, Int.reduceNeg, Int.reduceAdd, Int.reduceSub, Int.reduceMul, zI_eq, zI_le, ix_zI, bnd_zI, toNat_c, Int.reduceEq, Int.reduceLT, Int.reduceNe, Int.reduceToNat, Int.reduceMul, Int.reduceAdd, Int.zero_add, if_true, if_false, reduceIte, Nat.reduceAdd, n1, e1]
      · simp (disch := first | assumption | omega) only [cI_rI, cV_rV, cJ_rJ, rZ_0, rZ_1, rZ_z0, rZ_z1, zI_lit, zI_ofNat, zI_add, zI_sub, zI_mul, zI_neg, Int.cast_ofNat_Int, Int.reduceNeg, Int.reduceAdd, Int.reduceSub, Int.reduceMul, zI_eq, zI_le, ix_zI, bnd_zI, toNat_c, Int.reduceEq, Int.reduceLT, Int.reduceNe, Int.reduceToNat, Int.reduceMul, Int.reduceAdd, Int.zero_add, if_true, if_false, reduceIte, Nat.reduceAdd, e2]
    by_cases b4 : b = 4
    · subst b4
      refine ⟨zI (rd σ (r + 1) a), ?_, ?_⟩
      · simp (disch := first | assumption | omega) only [cI_rI, cV_rV, cJ_rJ, rZ_0, rZ_1, rZ_z0, rZ_z1, zI_lit, zI_ofNat, zI_add, zI_sub, zI_mul, zI_neg, Int.cast_ofNat_Int, Int.reduceNeg, Int.reduceAdd, Int.reduceSub, Int.reduceMul, zI_eq, zI_le, ix_zI, bnd_zI, toNat_c, Int.reduceEq, Int.reduceLT, Int.reduceNe, Int.reduceToNat, Int.reduceMul, Int.reduceAdd, Int.zero_add, if_true, if_false, reduceIte, Nat.reduceAdd, ofs_0_0, ofs_0_1, ofs_0_2, ofs_0_3, ofs_0_4, ofs_1_0, ofs_1_1, ofs_1_2, ofs_1_3, ofs_1_4, ofs_1_5, ofs_2_1, ofs_2_2, ofs_2_3, ofs_2_4, ofs_2_6, ofs_2_7, ofs_2_8, ofs_3_0, ofs_3_1, ofs_3_2, ofs_3_3, ofs_4_1, ofs_4_2, ofs_4_3, ofs_4_4, ofs_4_5, ofs_4_6, ofs_4_7, ofs_5_1, ofs_5_2, ofs_5_3, ofs_5_4, ofs_5_6, ofs_6_1, ofs_6_2, ofs_6_3, ofs_6_4, ofs_7_0, ofs_8_0, ofs_8_1, ofs_8_2, ofs_8_8, ofs_9_1, ofs_9_2, ofs_9_4, ofs_9_5, ofs_9_6, ofs_10_0, ofs_10_7, ofs_10_8, ofs_10_9, ofs_10_10, ofs_10_11, ofs_10_12, ofs_10_13, ofs_10_14, ofs_10_15, ofs_11_0, ofs_11_1, ofs_11_2, ofs_11_3, ofs_11_4, ofs_11_6, ofs_11_17, ofs_11_18, ofs_11_19, ofs_11_20, ofs_11_21, ofs_11_22, ofs_11_23, ofs_11_24, ofs_11_25, ofs_11_26, ofs_11_27, ofs_11_28, ofs_11_29, ofs_11_30, ofs_11_31, ofs_11_33, ofs_11_34, ofs_11_35, ofs_11_36, ofs_11_37, ofs_11_43, ofs_11_44, ofs_11_45, ofs_11_47, ofs_11_48, ofs_11_49, ofs_11_50, ofs_11_51, ofs_11_52, ofs_11_54, ofs_11_55, ofs_11_56, ofs_11_57, ofs_11_59, ofs_11_60, ofs_11_61, ofs_11_62, ofs_11_63, ofs_11_64, ofs_11_65, ofs_11_66, ofs_11_67, ofs_11_68, ofs_11_71, ofs_11_74, ofs_11_75, ofs_11_76, ofs_11_77, ofs_11_78, n1, gfS_of, ldI_of, y3]
      · simp (disch := first | assumption | omega) only [cI_rI, cV_rV, cJ_rJ, rZ_0, rZ_1, rZ_z0, rZ_z1, zI_lit, zI_ofNat, zI_add, zI_sub, zI_mul, zI_neg, Int.cast_ofNat_Int, Int.reduceNeg, Int.reduceAdd, Int.reduceSub, Int.reduceMul, zI_eq, zI_le, ix_zI, bnd_zI, toNat_c, Int.reduceEq, Int.reduceLT, Int.reduceNe, Int.reduceToNat, Int.reduceMul, Int.reduceAdd, Int.zero_add, if_true, if_false, reduceIte, Nat.reduceAdd, bnd_zI, y1]
    by_cases b5 : b = 5
    · subst b5
      refine ⟨zI (rd σ (r + 3) a), ?_, ?_⟩
      · simp (disch := first | assumption | omega) only [cI_rI, cV_rV, cJ_rJ, rZ_0, rZ_1, rZ_z0, rZ_z1, zI_lit, zI_ofNat, zI_add, zI_sub, zI_mul, zI_neg, Int.cast_ofNat_Int, Int.reduceNeg, Int.reduceAdd, Int.reduceSub, Int.reduceMul, zI_eq, zI_le, ix_zI, bnd_zI, toNat_c, Int.reduceEq, Int.reduceLT, Int.reduceNe, Int.reduceToNat, Int.reduceMul, Int.reduceAdd, Int.zero_add, if_true, if_false, reduceIte, Nat.reduceAdd, ofs_0_0, ofs_0_1, ofs_0_2, ofs_0_3, ofs_0_4, ofs_1_0, ofs_1_1, ofs_1_2, ofs_1_3, ofs_1_4, ofs_1_5, ofs_2_1, ofs_2_2, ofs_2_3, ofs_2_4, ofs_2_6, ofs_2_7, ofs_2_8, ofs_3_0, ofs_3_1, ofs_3_2, ofs_3_3, ofs_4_1, ofs_4_2, ofs_4_3, ofs_4_4, ofs_4_5, ofs_4_6, ofs_4_7, ofs_5_1, ofs_5_2, ofs_5_3, ofs_5_4, ofs_5_6, ofs_6_1, ofs_6_2, ofs_6_3, ofs_6_4, ofs_7_0, ofs_8_0, ofs_8_1, ofs_8_2, ofs_8_8, ofs_9_1, ofs_9_2, ofs_9_4, ofs_9_5, ofs_9_6, ofs_10_0, ofs_10_7, ofs_10_8, ofs_10_9, ofs_10_10, ofs_10_11, ofs_10_12, ofs_10_13, ofs_10_14, ofs_10_15, ofs_11_0, ofs_11_1, ofs_11_2, ofs_11_3, ofs_11_4, ofs_11_6, ofs_11_17, ofs_11_18, ofs_11_19, ofs_11_20, ofs_11_21, ofs_11_22, ofs_11_23, ofs_11_24, ofs_11_25, ofs_11_26, ofs_11_27, ofs_11_28, ofs_11_29, ofs_11_30, ofs_11_31, ofs_11_33, ofs_11_34, ofs_11_35, ofs_11_36, ofs_11_37, ofs_11_43, ofs_11_44, ofs_11_45, ofs_11_47, ofs_11_48, ofs_11_49, ofs_11_50, ofs_11_51, ofs_11_52, ofs_11_54, ofs_11_55, ofs_11_56, ofs_11_57, ofs_11_59, ofs_11_60, ofs_11_61, ofs_11_62, ofs_11_63, ofs_11_64, ofs_11_65, ofs_11_66, ofs_11_67, ofs_11_68, ofs_11_71, ofs_11_74, ofs_11_75, ofs_11_76, ofs_11_77, ofs_11_78, n1, gfS_of, ldI_of, y4]
      · simp (disch := first | assumption | omega) only [cI_rI, cV_rV, cJ_rJ, rZ_0, rZ_1, rZ_z0, rZ_z1, zI_lit, zI_ofNat, zI_add, zI_sub, zI_mul, zI_neg, Int.cast_ofNat_Int, Int.reduceNeg, Int.reduceAdd, Int.reduceSub, Int.reduceMul, zI_eq, zI_le, ix_zI, bnd_zI, toNat_c, Int.reduceEq, Int.reduceLT, Int.reduceNe, Int.reduceToNat, Int.reduceMul, Int.reduceAdd, Int.zero_add, if_true, if_false, reduceIte, Nat.reduceAdd, bnd_zI, y2]
    refine ⟨zI (-1), ?_, ?_⟩
    · simp (disch := first | assumption | omega) only [cI_rI, cV_rV, cJ_rJ, rZ_0, rZ_1, rZ_z0, rZ_z1, zI_lit, zI_ofNat, zI_add, zI_sub, zI_mul, zI_neg, Int.cast_ofNat_Int, Int.reduceNeg, Int.reduceAdd, Int.reduceSub, Int.reduceMul, zI_eq, zI_le, ix_zI, bnd_zI, toNat_c, Int.reduceEq, Int.reduceLT, Int.reduceNe, Int.reduceToNat, Int.reduceMul, Int.reduceAdd, Int.zero_add, if_true, if_false, reduceIte, Nat.reduceAdd, b0, b1, b2, b3, b4, b5]
    · simp (disch := first | assumption | omega) only [cI_rI, cV_rV, cJ_rJ, rZ_0, rZ_1, rZ_z0, rZ_z1, zI_lit, zI_ofNat, zI_add, zI_sub, zI_mul, zI_neg, Int.cast_ofNat_Int, Int.reduceNeg, Int.reduceAdd, Int.reduceSub, Int.reduceMul, zI_eq, zI_le, ix_zI, bnd_zI, toNat_c, Int.reduceEq, Int.reduceLT, Int.reduceNe, Int.reduceToNat, Int.reduceMul, Int.reduceAdd, Int.zero_add, if_true, if_false, reduceIte, Nat.reduceAdd, b0, b1, b2, b3, b4, b5]
  · rw [decide_eq_false q] at eN eM
    refine ⟨zI (-1), σ, σ, r, p, l, ?_, ?_, h⟩
    · rw [f_N_nameIs_eq, eN, cI_rI, bz_ff, if_pos (by decide)]; rfl
    · rw [f_M_nameIs_eq, eM, cI_rI, bz_ff, if_pos (by decide)]; rfl
theorem c_left {σ : Sg} {r p l : Nat} (h : Inv r p l σ) (a : Int32) : Same (f_N_left 100 a) (f_M_left 100 a) σ := by
  obtain ⟨a, rfl, ha⟩ := zI_ex a
  obtain ⟨n1, n2, n3, n4⟩ := h.n
  have eI := in_sp (σ := σ) (d := 98) (a := a) (b := 0) (c := 1) ha (by decide) (by decide)
  have hr := h.2.2.1
  have mr := hr.mr
  have hR := h.1.1
  have s0 := hR.s0
  have V := vOf_VC σ 87
  have vm : ∀ k : Int, 0 ≤ k → k < 20 → σ.1 103 k.toNat = zI (vOf σ 87 k) := h.2.2.2.2.2.2.1.2.vm
  have en : σ.1 r 0 = zI (rd σ r 0) := rd_k σ r 0
  have em : σ.1 102 5 = zI (rd σ r 0) := (rd_k σ 102 5).trans (congrArg zI n4)
  have vb := h.2.2.2.2.2.2.1.1.vb
  suffices H : ∃ v, f_N_left 100 (zI a) σ = rI v σ ∧ f_M_left 100 (zI a) σ = rI v σ by
    obtain ⟨v, e1, e2⟩ := H
    exact ⟨v, σ, σ, r, p, l, e1, e2, h⟩
  by_cases q : (a = 0 ∨ a = 1) ∧ rd σ r 0 ≠ 0
  · -- the loops go alike
    have hW : ∀ x, 0 ≤ x → x < rd σ r 0 → 0 ≤ rd σ (r + 1) x ∧ rd σ (r + 1) x < rd σ r 0 := fun x x0 x1 => ⟨(hr.1.bd x0 x1).1, (hr.1.bd x0 x1).2.1⟩
    have lN : ∀ x, 0 ≤ x → x < rd σ r 0 → f_Village_leftMen 99 87 r (zI x) σ = rI (zI (vOf σ 87 x - vOf σ 87 (6 + rd σ (r + 1) x))) σ := fun x x0 x1 => leftMen_sp V.1 hr.1 (d := 98) x0 x1
    have VMm := vMo_VM vm
    have lM : ∀ x, 0 ≤ x → x < rd σ r 0 → f_M_leftOf 99 (zI x) σ = rI (zI (vOf σ 87 x - vOf σ 87 (6 + rd σ (r + 1) x))) σ := fun x x0 x1 => by
      have := leftOf_sp VMm mr (d := 98) x0 x1
      have w := hW x x0 x1
      rwa [vMo_lt σ (by omega), vMo_lt σ (by omega)] at this
    have bd : ∀ x, 0 ≤ x → x < rd σ r 0 → -9999 ≤ vOf σ 87 x - vOf σ 87 (6 + rd σ (r + 1) x) ∧ vOf σ 87 x - vOf σ 87 (6 + rd σ (r + 1) x) ≤ 9999 := fun x x0 x1 => by
      have := hW x x0 x1
      have b1 := vb.1 x x0 (by omega); have b2 := vb.1 (6 + rd σ (r + 1) x) (by omega) (by omega)
      omega
    generalize hL : (fun x => vOf σ 87 x - vOf σ 87 (6 + rd σ (r + 1) x)) = L
    have lN : ∀ x, 0 ≤ x → x < rd σ r 0 → f_Village_leftMen 99 87 r (zI x) σ = rI (zI (L x)) σ := by rw [← hL]; exact lN
    have lM : ∀ x, 0 ≤ x → x < rd σ r 0 → f_M_leftOf 99 (zI x) σ = rI (zI (L x)) σ := by rw [← hL]; exact lM
    have bd : ∀ x, 0 ≤ x → x < rd σ r 0 → -9999 ≤ L x ∧ L x ≤ 9999 := by rw [← hL]; exact bd
    have main : ∀ (k : Nat) (i b : Int), i + k = rd σ r 0 → 1 ≤ i → 0 ≤ b → b < i → ∃ v, f_N_left_26 99 (zI a) (zI b) (zI i) σ = rI v σ ∧ f_M_left_24 99 (zI a) (zI b) (zI i) σ = rI v σ := by
      intro k
      induction k with
      | zero =>
        intro i b hi h1 b0 b1
        have : i = rd σ r 0 := by omega
        subst this
        rw [f_N_left_26_eq, f_M_left_24_eq, n1, gfI_of s0, en, em, if_neg Int32.lt_irrefl, if_neg Int32.lt_irrefl]
        by_cases a0 : zI a = 0
        · rw [if_pos a0, if_pos a0]; exact ⟨_, rfl, rfl⟩
        · rw [if_neg a0, if_neg a0, lN b b0 b1, lM b b0 b1, cI_rI]; exact ⟨_, rfl, rfl⟩
      | succ k ih =>
        intro i b hi h1 b0 b1
        have z := bd i (by omega) (by omega); have z' := bd b b0 (by omega)
        have lt : zI i < zI (rd σ r 0) := by rw [zI_le (by omega) (by omega)]; omega
        have i1 : zI i + 1 = zI (i + 1) := by rw [zI_lit, zI_add]
        rw [f_N_left_26_eq, f_M_left_24_eq, n1, gfI_of s0, en, em, if_pos lt, if_pos lt, lN i (by omega) (by omega), lM i (by omega) (by omega), cI_rI, cI_rI, n1, lN b b0 (by omega), lM b b0 (by omega), cI_rI, cI_rI, i1]
        by_cases c : zI (L b) < zI (L i)
        · rw [if_pos c, if_pos c]; exact ih (i + 1) i (by omega) (by omega) (by omega) (by omega)
        · rw [if_neg c, if_neg c]; exact ih (i + 1) b (by omega) (by omega) (by omega) (by omega)
    obtain ⟨v, e1, e2⟩ := main (rd σ r 0 - 1).toNat 1 0 (by omega) (by decide) (by decide) (by decide)
    refine ⟨v, ?_, ?_⟩
    · rw [f_N_left_eq, n1, gfI_of s0, en, if_neg (by rw [zI_0, zI_eq (by omega) (by decide)]; exact q.2), zI_0, show (1 : Int32) = zI 1 from zI_lit 1, e1]
      by_cases a0 : zI a = zI 0
      · rw [if_pos a0]
      · rw [if_neg a0, if_pos]
        rw [zI_eq ha (by decide)] at a0
        rw [zI_eq ha (by decide)]; omega
    · rw [f_M_left_eq, zI_0, show (1 : Int32) = zI 1 from zI_lit 1, eI, cI_rI, decide_eq_true (by omega), bz_tt, if_neg (by decide), em, if_neg (by rw [zI_eq (by omega) (by decide)]; exact q.2), e2]
  · refine ⟨zI (-100000), ?_, ?_⟩
    · rw [f_N_left_eq, n1, gfI_of s0, en]
      simp (disch := first | assumption | omega) only [cI_rI, cV_rV, cJ_rJ, rZ_0, rZ_1, rZ_z0, rZ_z1, zI_lit, zI_ofNat, zI_add, zI_sub, zI_mul, zI_neg, Int.cast_ofNat_Int, Int.reduceNeg, Int.reduceAdd, Int.reduceSub, Int.reduceMul, zI_eq, zI_le, ix_zI, bnd_zI, toNat_c, Int.reduceEq, Int.reduceLT, Int.reduceNe, Int.reduceToNat, Int.reduceMul, Int.reduceAdd, Int.zero_add, if_true, if_false, reduceIte, Nat.reduceAdd]
      repeat' split
      all_goals first | rfl | omega
    · rw [f_M_left_eq, zI_0, show (1 : Int32) = zI 1 from zI_lit 1, eI, cI_rI, em]
      simp (disch := first | assumption | omega) only [cI_rI, cV_rV, cJ_rJ, rZ_0, rZ_1, rZ_z0, rZ_z1, zI_lit, zI_ofNat, zI_add, zI_sub, zI_mul, zI_neg, Int.cast_ofNat_Int, Int.reduceNeg, Int.reduceAdd, Int.reduceSub, Int.reduceMul, zI_eq, zI_le, ix_zI, bnd_zI, toNat_c, Int.reduceEq, Int.reduceLT, Int.reduceNe, Int.reduceToNat, Int.reduceMul, Int.reduceAdd, Int.zero_add, if_true, if_false, reduceIte, Nat.reduceAdd, bz_0, decide_eq_false_iff_not]
      repeat' split
      all_goals first | rfl | omega
