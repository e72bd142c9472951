def DR1 : List Nat := [7, 8, 9, 10, 11, 12, 13, 14, 15, 16, 18, 19, 20, 21, 22, 23, 24, 26, 27, 28, 29, 30, 31, 32, 76, 77, 80, 81, 98, 99, 100, 4, 105, 106, 107, 115, 116, 117, 118, 119, 142, 143, 144, 145, 146, 88, 89, 90, 103]
def DC1 : List (Nat × Nat) := [(102, 5), (102, 69), (102, 16), (102, 83), (102, 84), (17, 0), (17, 8), (17, 9), (25, 0), (25, 8), (25, 9), (97, 3), (97, 4), (87, 3), (87, 4)]
theorem dy_rule {S : Nat → Nat → Bool} {r : Nat} (hr : r = 7 ∨ r = 12) (g1 : ∀ a, elm DR1 a = true → ∀ k, S a k = false) (g2 : ∀ a k, elc DC1 a k = true → S a k = false) : ∀ a k, DRule r a k = true → S a k = false := by
  intro a k h
  simp only [DRule, Bool.or_eq_true, Bool.and_eq_true, beq_iff_eq] at h
  rcases hr with rfl | rfl
  all_goals
    rcases h with ((((((rfl | rfl) | rfl) | rfl) | rfl) | ⟨rfl, rfl⟩) | rfl) | rfl
    all_goals first | exact g1 _ rfl _ | exact g2 _ _ rfl
theorem dy_roll {S : Nat → Nat → Bool} {r p : Nat} (hr : r = 7 ∨ r = 12) (hp : p = 17 ∨ p = 25) (g1 : ∀ a, elm DR1 a = true → ∀ k, S a k = false) (g2 : ∀ a k, elc DC1 a k = true → S a k = false) : ∀ a k, DRoll r p a k = true → S a k = false := by
  intro a k h
  simp only [DRoll, Bool.or_eq_true, Bool.and_eq_true, beq_iff_eq] at h
  rcases h with ((((((((((((((⟨rfl, rfl⟩ | ⟨rfl, (rfl | rfl) | rfl⟩) | rfl) | rfl) | rfl) | rfl) | rfl) | rfl) | rfl) | ⟨rfl, rfl⟩) | rfl) | rfl) | rfl) | rfl) | rfl)
  · rcases hr with rfl | rfl <;> exact g1 _ rfl _
  · rcases hp with rfl | rfl <;> exact g2 _ _ rfl
  · rcases hp with rfl | rfl <;> exact g2 _ _ rfl
  · rcases hp with rfl | rfl <;> exact g2 _ _ rfl
  all_goals first | exact g1 _ rfl _ | exact g2 _ _ rfl | (rcases hp with rfl | rfl <;> exact g1 _ rfl _)
theorem dy_law {S : Nat → Nat → Bool} {l : Nat} (g1 : ∀ a, elm DR1 a = true → ∀ k, S a k = false) (g2 : ∀ a k, elc DC1 a k = true → S a k = false) (h3 : S l 0 = false) (h4 : allR S [l + 1, l + 2, l + 3, l + 4, l + 5, l + 6]) : ∀ a k, DLaw l a k = true → S a k = false := by
  intro a k h
  obtain ⟨q1, q2, q3, q4, q5, q6, -⟩ := h4
  simp only [DLaw, Bool.or_eq_true, Bool.and_eq_true, beq_iff_eq] at h
  rcases h with ((((((((((((⟨rfl, rfl⟩ | rfl) | rfl) | rfl) | rfl) | rfl) | rfl) | ⟨rfl, rfl⟩) | rfl) | rfl) | rfl) | rfl) | rfl)
  · exact h3
  · exact q1 _
  · exact q2 _
  · exact q3 _
  · exact q4 _
  · exact q5 _
  · exact q6 _
  · exact g2 _ _ rfl
  all_goals exact g1 _ rfl _
theorem dy_hou {S : Nat → Nat → Bool} {r p : Nat} (hr : r = 7 ∨ r = 12) (hp : p = 17 ∨ p = 25) (g1 : ∀ a, elm DR1 a = true → ∀ k, S a k = false) (g2 : ∀ a k, elc DC1 a k = true → S a k = false) : ∀ a k, DHou r p a k = true → S a k = false := by
  intro a k h
  simp only [DHou, Bool.or_eq_true, Bool.and_eq_true, beq_iff_eq] at h
  rcases h with (((((((((((((⟨rfl, rfl⟩ | rfl) | rfl) | rfl) | ⟨rfl, rfl⟩) | rfl) | rfl) | rfl) | rfl) | rfl) | rfl) | rfl) | rfl) | rfl)
  all_goals first | exact g1 _ rfl _ | (rcases hr with rfl | rfl <;> exact g1 _ rfl _) | (rcases hp with rfl | rfl <;> first | exact g1 _ rfl _ | exact g2 _ _ rfl)
theorem dy_kep {S : Nat → Nat → Bool} (g1 : ∀ a, elm DR1 a = true → ∀ k, S a k = false) (g2 : ∀ a k, elc DC1 a k = true → S a k = false) : ∀ a k, DKep a k = true → S a k = false := by
  intro a k h
  simp only [DKep, DV, Bool.or_eq_true, Bool.and_eq_true, beq_iff_eq] at h
  rcases h with (rfl | ⟨rfl, rfl | rfl⟩) | (((⟨rfl, rfl | rfl⟩ | rfl) | rfl) | rfl) | rfl
  all_goals first | exact g1 _ rfl _ | exact g2 _ _ rfl

theorem Inv.took {S : Nat → Nat → Bool} {σ σ' : Sg} {r p l : Nat} (h : Inv r p l σ) (F : Fr S σ σ') (h1 : allR S DR1) (h2 : allC S DC1) (h3 : S l 0 = false) (h4 : allR S [l + 1, l + 2, l + 3, l + 4, l + 5, l + 6]) (e1 : rd σ' 5 1 = 0) (e2 : rd σ' 102 7 = 0) : Inv r p l σ' := by
  have hb := h.bits
  have g1 := allR_at h1; have g2 := allC_at h2
  obtain ⟨i1, i2, i3, i4, i5, i6, i7, i8⟩ := h
  refine ⟨i1.fr F, ⟨by omega, by omega, by omega, fun k k0 k1 => by omega⟩, i3.fr F (dy_rule hb.1 g1 g2), i4.fr F (dy_roll hb.1 hb.2.1 g1 g2), i5.fr F (dy_law g1 g2 h3 h4), i6.fr F (dy_hou hb.1 hb.2.1 g1 g2), i7.fr F (fr_rd F (dy_rule hb.1 g1 g2 _ _ (by simp [DRule]))) ?_, i8.fr F (dy_kep g1 g2)⟩
  intro a k q
  simp only [DV, Bool.or_eq_true, Bool.and_eq_true, beq_iff_eq] at q
  rcases q with (((⟨rfl, rfl | rfl⟩ | rfl) | rfl) | rfl) | rfl
  all_goals first | exact g1 _ rfl _ | exact g2 _ _ rfl
/-- a set is put together -/
theorem setloop {n : Int} {F : Int → Int32 → Rs} {P : Int → Bool} {σ : Sg} (hs : ∀ i s, 0 ≤ i → i < n → F i s = F (i + 1) (if P i = true then s ||| (zI 1 <<< (zI i &&& zI 31)) else s)) (he : ∀ s, F n s = rI s σ) (n0 : 0 ≤ n) (n1 : n ≤ 32) : ∃ s, F 0 (zI 0) = rI s σ ∧ ∀ y, 0 ≤ y → y < 32 → gb s y = (decide (y < n) && P y) := by
  refine zloop (α := Int32) n F (fun i s => 0 ≤ i ∧ ∀ y, 0 ≤ y → y < 32 → gb s y = (decide (y < i) && P y)) (fun o => ∃ s, o = rI s σ ∧ ∀ y, 0 ≤ y → y < 32 → gb s y = (decide (y < n) && P y)) ?_ ?_ 0 (zI 0) n0 ⟨by decide, fun y y0 y1 => ?_⟩
  · rintro i s hi ⟨i0, h⟩
    refine Or.inr ⟨_, hs i s i0 hi, by omega, fun y y0 y1 => ?_⟩
    by_cases q : P i = true
    · rw [if_pos q, gb_or, h y y0 y1, gb_sh i0 (by omega) y0 y1]
      by_cases e : y = i
      · subst e; rw [q]; simp; omega
      · rw [decide_eq_false e, Bool.or_false]
        exact congrArg (· && P y) (decide_eq_decide.mpr (by omega))
    · rw [if_neg q, h y y0 y1]
      by_cases e : y = i
      · subst e; rw [show P y = false by cases hp : P y with | true => exact absurd hp q | false => rfl]; simp
      · exact congrArg (· && P y) (decide_eq_decide.mpr (by omega))
  · rintro s ⟨-, h⟩
    exact ⟨s, he s, h⟩
  · rw [gb_0, decide_eq_false (by omega)]; rfl
theorem and255 {v : Int} (h0 : 0 ≤ v) (h1 : v < 2147483648) : zI v &&& zI 255 = zI (v % 256) := by
  have e : ∀ z : Int, 0 ≤ z → z < 2147483648 → (zI z).toBitVec.toNat = z.toNat := fun z z0 z1 => by
    have : (zI z).toInt = z := zI_toInt (by omega) z1
    have h2 : (zI z).toBitVec.toInt = z := this
    rw [BitVec.toInt_eq_toNat_cond] at h2
    split at h2 <;> omega
  apply Int32.toBitVec_inj.mp
  apply BitVec.eq_of_toNat_eq
  rw [Int32.toBitVec_and, BitVec.toNat_and, e v h0 h1, e 255 (by decide) (by decide), e (v % 256) (by omega) (by omega)]
  show v.toNat &&& (2 ^ 8 - 1) = _
  rw [Nat.and_two_pow_sub_one_eq_mod]
  omega
theorem take_sp {σ : Sg} {d : Nat} {f n : Int} : f_Tape_take (d + 1) (zI f) (zI n) σ = rV (sI (sI (sI (sI σ 5 2 (zI f)) 5 3 (zI n)) 5 4 (zI 0)) 5 1 (zI 0)) := by
  rw [f_Tape_take_eq, zI_0]
theorem c_check {σ : Sg} {r p l : Nat} (h : Inv r p l σ) (a : Int32) : Same (f_N_check 100 a) (f_M_check 100 a) σ := by
  obtain ⟨a, rfl, ha⟩ := zI_ex a
  obtain ⟨n1, n2, n3, n4⟩ := h.n
  obtain ⟨t0, t1, t2, t3⟩ := h.2.1
  have hb := h.bits
  have e5 : σ.1 5 1 = zI (rd σ 5 1) := rd_k _ _ _
  have e7 : σ.1 102 7 = zI (rd σ 5 1) := (rd_k σ 102 7).trans (congrArg zI t2)
  have iM := in_sp (σ := σ) (d := 98) (a := a) (b := 0) (c := 6) ha (by decide) (by decide)
  by_cases q : (0 ≤ a ∧ a ≤ 6) ∧ a ≤ rd σ 5 1
  · have F1 : Fr (fun x _ => x == 5) σ (sI (sI (sI (sI σ 5 2 (zI 0)) 5 3 (zI a)) 5 4 (zI 0)) 5 1 (zI 0)) := ((((Fr.rf _ σ).sI _ rfl).sI _ rfl).sI _ rfl).sI _ rfl
    have x1 : rd (sI (sI (sI (sI σ 5 2 (zI 0)) 5 3 (zI a)) 5 4 (zI 0)) 5 1 (zI 0)) 5 1 = 0 := rd_same rfl (by decide) (by decide)
    have et := take_sp (σ := σ) (d := 98) (f := 0) (n := a)
    generalize sI (sI (sI (sI σ 5 2 (zI 0)) 5 3 (zI a)) 5 4 (zI 0)) 5 1 (zI 0) = σ1 at F1 x1 et
    have F2 : Fr (fun x k => x == 5 || (x == 102 && k == 7)) σ (sI σ1 102 7 (zI 0)) := (F1.mono (by intro a k; simp; intro q _; exact q)).sI _ rfl
    have x2 : rd (sI σ1 102 7 (zI 0)) 102 7 = 0 := rd_same rfl (by decide) (by decide)
    have x3 : rd (sI σ1 102 7 (zI 0)) 5 1 = 0 := by rw [rd_other (by decide)]; exact x1
    generalize hσ2 : sI σ1 102 7 (zI 0) = σ2 at F2 x2 x3
    have hI : Inv r p l σ2 := by
      refine h.took F2 ?_ ?_ (by rcases hb.2.2 with rfl | rfl <;> rfl) (by rcases hb.2.2 with rfl | rfl <;> repeat (first | exact trivial | refine ⟨fun _ => rfl, ?_⟩ | refine ⟨rfl, ?_⟩)) x3 x2
      all_goals repeat (first | exact trivial | refine ⟨fun _ => rfl, ?_⟩ | refine ⟨rfl, ?_⟩)
    have F12 : Fr (fun x k => (x == 102 && k == 7)) σ1 σ2 := by rw [← hσ2]; exact (Fr.rf _ σ1).sI _ rfl
    -- the loops go alike
    have hv := h.2.2.2.2.2.2.1
    have hr := h.2.2.1
    have V := (vOf_VC σ 87).1.fr F1 (fun _ => rfl) (fun _ => rfl) fun _ => rfl
    have r1 := (hr.1.fr F1 (by intro x k e; have := hb.1; simp [DRule] at e; simp; omega))
    have p1 : σ1.2.2 4 1 = r := by rw [F1.1]; exact n1
    have vm2 : VM (vMo σ) σ2 := (vMo_VM hv.2.vm).fr F2 (fun _ => rfl) ⟨rfl, rfl, rfl⟩
    have mr2 := hr.mr.fr F2 rfl (fun _ => rfl) fun _ => rfl
    have nm1 : ∀ x, -2147483648 ≤ x ∧ x < 2147483648 → f_N_isName 99 (zI x) σ1 = rI (bz (decide (0 ≤ x ∧ x < rd σ r 0))) σ1 := fun x hx => isName_sp p1 n2 (by rw [r1.2.2.2.2.2]) n3 (d := 98) hx
    have nm2 : ∀ x, -2147483648 ≤ x ∧ x < 2147483648 → f_M_isName 99 (zI x) σ2 = rI (bz (decide (0 ≤ x ∧ x < rd σ r 0))) σ2 := fun x hx => isNameM_sp mr2.1 n3 (d := 97) hx
    have main : ∀ (k : Nat) (i : Int) (y : Value), i + k = a → 0 ≤ i → ∃ v, f_N_check_35 99 (zI a) (zI i) y σ1 = rI v σ1 ∧ f_M_check_28 99 (zI a) (zI i) σ2 = rI v σ2 := by
      intro k
      induction k with
      | zero =>
        intro i y hi i0
        have : i = a := by omega
        subst this
        rw [f_N_check_35_eq, f_M_check_28_eq, if_neg Int32.lt_irrefl, if_neg Int32.lt_irrefl]; exact ⟨_, rfl, rfl⟩
      | succ k ih =>
        intro i y hi i0
        have lt : zI i < zI a := by rw [zI_le (by omega) (by omega)]; omega
        have i1 : zI i + 1 = zI (i + 1) := by rw [zI_lit, zI_add]
        obtain ⟨b0, b1, b2⟩ := t3 i i0 (by omega)
        have c6 : σ1.1 6 i.toNat = zI (rd σ 6 i) := by rw [F1.2 _ _ rfl, rd_k, toNat_c i0]
        have c8 : f_M_octet 99 (zI i) σ2 = rI (zI (rd σ 6 i)) σ2 := by
          rw [f_M_octet_eq, bnd_zI i0 (by omega) (by omega), ix_zI i0 (by omega), F2.2 108 _ rfl, show (255 : Int32) = zI 255 from zI_lit 255, b2]
        rw [f_N_check_35_eq, f_M_check_28_eq, if_pos lt, if_pos lt, nm1 i (by omega), cI_rI, c8, cI_rI, nm2 i (by omega), cI_rI, bnd_zI i0 (by omega) (by omega), ix_zI i0 (by omega), c6, i1]
        by_cases c : i < rd σ r 0
        · rw [decide_eq_true ⟨i0, c⟩, bz_tt, p1]
          have a1 := allOf_sp (a := 87) rfl rfl rfl rfl V r1.1 (d := 98) i0 c
          have a2 := allOfM_sp vm2 mr2 (d := 97) i0 c
          have bd := hr.1.bd i0 c
          rw [r1.2.2.1] at a1
          rw [vMo_lt σ (by omega), vMo_lt σ (by omega), vMo_lt σ (by omega), vMo_lt σ (by omega)] at a2
          have nn := vAll_nn (H := rd σ (r + 2)) hv.1.vb i0 (by omega) bd.2.2.2.2.1 (by omega)
          unfold vAll at nn
          generalize vOf σ 87 i + vOf σ 87 (6 + i) + vOf σ 87 (12 + i) + vOf σ 87 (12 + rd σ (r + 2) i) = w at a1 a2 nn
          have w255 : zI w &&& 255 = zI (w % 256) := by rw [show (255 : Int32) = zI 255 from zI_lit 255]; exact and255 (by omega) (by omega)
          have w256 : ∀ K : Int32 → Rs, rmI (zI w) 256 K = K (zI (w % 256)) := fun K => by rw [show (256 : Int32) = zI 256 from zI_lit 256]; exact rmI_nn (by omega) (by omega) (by decide) (by decide)
          have n10 : ¬ (zI 1 = (0 : Int32)) := by decide
          simp only [if_neg n10, a1, a2, cI_rI, w255, w256, bnd_zI i0 (show i < (260 : Nat) by omega) (by omega), ix_zI i0 (show i < 2147483648 by omega), c6]
          by_cases z : zI (rd σ 6 i) = zI (w % 256)
          · rw [if_pos z, if_pos z]; exact ih (i + 1) _ (by omega) (by omega)
          · rw [if_neg z, if_neg z]; exact ⟨_, rfl, rfl⟩
        · rw [decide_eq_false (by omega), bz_ff]
          have n10 : (zI 0 = (0 : Int32)) := by decide
          have n11 : (0 : Int32) &&& 255 = 0 := by decide
          simp only [if_pos n10, n11]
          by_cases z : zI (rd σ 6 i) = 0
          · rw [if_pos z, if_pos z]; exact ih (i + 1) _ (by omega) (by omega)
          · rw [if_neg z, if_neg z]; exact ⟨_, rfl, rfl⟩
    obtain ⟨v, g1, g2⟩ := main a.toNat 0 .null (by omega) (by decide)
    refine ⟨v, σ1, σ2, r, p, l, ?_, ?_, hI⟩
    · rw [f_N_check_eq, e5]
      simp (disch := first | assumption | omega) only [cI_rI, cV_rV, cJ_rJ, rZ_0, rZ_1, rZ_z0, rZ_z1, zI_lit, zI_ofNat, zI_add, zI_sub, zI_mul, zI_neg, Int.cast_ofNat_Int, Int.reduceNeg, Int.reduceAdd, Int.reduceSub, Int.reduceMul, zI_eq, zI_le, ix_zI, bnd_zI, toNat_c, Int.reduceEq, Int.reduceLT, Int.reduceNe, Int.reduceToNat, Int.reduceMul, Int.reduceAdd, Int.zero_add, if_true, if_false, reduceIte, Nat.reduceAdd, et]
      rw [if_neg (by omega), if_neg (by omega), if_neg (by omega), g1]
    · have iM' := in_sp (σ := σ1) (d := 98) (a := a) (b := 0) (c := 6) ha (by decide) (by decide)
      have e7' : σ1.1 102 7 = zI (rd σ 5 1) := (F1.2 _ _ rfl).trans e7
      rw [f_M_check_eq, zI_0, show (6 : Int32) = zI 6 from zI_lit 6, iM', cI_rI, decide_eq_true q.1, bz_tt, if_neg (by decide), e7', if_neg (by rw [zI_le (by omega) (by omega)]; omega)]
      show f_M_check_28 99 (zI a) (zI 0) (sI σ1 102 7 (zI 0)) = _
      rw [hσ2, g2]
  · refine ⟨zI (-2), σ, σ, r, p, l, ?_, ?_, h⟩
    · rw [f_N_check_eq, e5]
      simp (disch := first | assumption | omega) only [cI_rI, cV_rV, cJ_rJ, rZ_0, rZ_1, rZ_z0, rZ_z1, zI_lit, zI_ofNat, zI_add, zI_sub, zI_mul, zI_neg, Int.cast_ofNat_Int, Int.reduceNeg, Int.reduceAdd, Int.reduceSub, Int.reduceMul, zI_eq, zI_le, ix_zI, bnd_zI, toNat_c, Int.reduceEq, Int.reduceLT, Int.reduceNe, Int.reduceToNat, Int.reduceMul, Int.reduceAdd, Int.zero_add, if_true, if_false, reduceIte, Nat.reduceAdd]
      repeat' split
      all_goals first | rfl | omega
    · rw [f_M_check_eq, zI_0, show (6 : Int32) = zI 6 from zI_lit 6, iM, cI_rI, e7]
      simp (disch := first | assumption | omega) only [cI_rI, cV_rV, cJ_rJ, rZ_0, rZ_1, rZ_z0, rZ_z1, zI_lit, zI_ofNat, zI_add, zI_sub, zI_mul, zI_neg, Int.cast_ofNat_Int, Int.reduceNeg, Int.reduceAdd, Int.reduceSub, Int.reduceMul, zI_eq, zI_le, ix_zI, bnd_zI, toNat_c, Int.reduceEq, Int.reduceLT, Int.reduceNe, Int.reduceToNat, Int.reduceMul, Int.reduceAdd, Int.zero_add, if_true, if_false, reduceIte, Nat.reduceAdd, bz_0, decide_eq_false_iff_not]
      repeat' split
      all_goals first | rfl | omega
theorem ofSort_sp {σ : Sg} {m : Int} {S : Int → Int} (hm : rd σ 102 69 = m) (m0 : 0 ≤ m ∧ m ≤ 24) (hS : ∀ x, 0 ≤ x → x < m → rd σ 142 x = S x) {d : Nat} {w : Int} (hw : w = 0 ∨ w = 1) (hs : ∀ x, 0 ≤ x → x < m → S x = 0 ∨ S x = 1) : ∃ s, f_M_ofSort (d + 1) (zI w) σ = rI s σ ∧ ∀ y, 0 ≤ y → y < 32 → gb s y = (decide (y < m) && decide (S y = w)) := by
  have em : σ.1 102 69 = zI m := (rd_k σ 102 69).trans (congrArg zI hm)
  rw [f_M_ofSort_eq, zI_0]
  refine setloop (F := fun i s => f_M_ofSort_4 d (zI w) s (zI i) σ) (P := fun y => decide (S y = w)) (fun i s i0 i1 => ?_) (fun s => ?_) m0.1 (by omega)
  · show f_M_ofSort_4 d (zI w) s (zI i) σ = f_M_ofSort_4 d (zI w) _ (zI (i + 1)) σ
    have e1 : σ.1 142 i.toNat = zI (S i) := by rw [rd_k, toNat_c i0, hS i i0 i1]
    have hsi := hs i i0 i1
    rw [f_M_ofSort_4_eq, em, if_pos (by rw [zI_le (by omega) (by omega)]; exact i1), bnd_zI i0 (by omega) (by omega), ix_zI i0 (by omega), e1, show (1 : Int32) = zI 1 from zI_lit 1, show (31 : Int32) = zI 31 from zI_lit 31, zI_add]
    by_cases z : S i = w
    · rw [if_pos (congrArg zI z), decide_eq_true z, if_pos rfl]
    · rw [if_neg (by rw [zI_eq (by omega) (by omega)]; exact z), decide_eq_false z, if_neg (by decide)]
  · show f_M_ofSort_4 d (zI w) s (zI m) σ = _
    rw [f_M_ofSort_4_eq, em, if_neg Int32.lt_irrefl]
theorem c_count {σ : Sg} {r p l : Nat} (h : Inv r p l σ) (a : Int32) : Same (f_N_count 100 a) (f_M_count 100 a) σ := by
  obtain ⟨a, rfl, ha⟩ := zI_ex a
  obtain ⟨n1, n2, n3, n4⟩ := h.n
  have hv := h.2.2.2.2.2.2.1
  have V := vOf_VC σ 87
  have vm : ∀ k : Int, 0 ≤ k → k < 20 → σ.1 103 k.toNat = zI (vOf σ 87 k) := hv.2.vm
  have hP := h.1.2.1
  have hL := h.1.2.2.1
  have q3 : σ.2.2 4 3 = p := h.1.2.2.2.2.2.1
  have q5 : σ.2.2 4 5 = l := h.1.2.2.2.2.2.2.2.1
  obtain ⟨⟨m0, m1, ok⟩, em, me, -, sets⟩ := h.2.2.2.1
  suffices H : ∃ v, f_N_count 100 (zI a) σ = rI v σ ∧ f_M_count 100 (zI a) σ = rI v σ by
    obtain ⟨v, e1, e2⟩ := H
    exact ⟨v, σ, σ, r, p, l, e1, e2, h⟩
  rw [f_N_count_eq, f_M_count_eq, n1, gfI_of n2, q3, gfI_of hP.s0, gfI_of hP.s0, gfI_of hP.s0, q5, gfI_of hL.s0]
  have ez : ∀ k : Nat, k < 9 → (zI a = (OfNat.ofNat k : Int32)) = (a = (k : Int)) := fun k hk => by
    rw [zI_lit]; exact zI_eq ha ⟨by show (-2147483648 : Int) ≤ (k : Int); omega, by show (k : Int) < 2147483648; omega⟩
  have z0 : (zI a = 0) = (a = 0) := ez 0 (by decide)
  have z1 : (zI a = 1) = (a = 1) := ez 1 (by decide)
  have z2 : (zI a = 2) = (a = 2) := ez 2 (by decide)
  have z3 : (zI a = 3) = (a = 3) := ez 3 (by decide)
  have z4 : (zI a = 4) = (a = 4) := ez 4 (by decide)
  have z5 : (zI a = 5) = (a = 5) := ez 5 (by decide)
  have z6 : (zI a = 6) = (a = 6) := ez 6 (by decide)
  have z7 : (zI a = 7) = (a = 7) := ez 7 (by decide)
  have z8 : (zI a = 8) = (a = 8) := ez 8 (by decide)
  simp only [z0, z1, z2, z3, z4, z5, z6, z7, z8]
  by_cases a0 : a = 0
  · rw [if_pos a0, if_pos a0]
    refine ⟨_, rfl, ?_⟩
    show rI (σ.1 103 18) σ = _
    rw [show σ.1 103 18 = zI (vOf σ 87 18) from vm 18 (by decide) (by decide), V.2.1]
  rw [if_neg a0, if_neg a0]
  by_cases a1 : a = 1
  · rw [if_pos a1, if_pos a1]
    refine ⟨_, rfl, ?_⟩
    rw [show σ.1 102 5 = zI (rd σ r 0) from (rd_k σ 102 5).trans (congrArg zI n4), show σ.1 r 0 = zI (rd σ r 0) from rd_k _ _ _]
  rw [if_neg a1, if_neg a1]
  by_cases a2 : a = 2
  · rw [if_pos a2, if_pos a2]
    refine ⟨_, rfl, ?_⟩
    rw [show σ.1 102 69 = zI (rd σ p 0) from (rd_k σ 102 69).trans (congrArg zI em), show σ.1 p 0 = zI (rd σ p 0) from rd_k _ _ _]
  rw [if_neg a2, if_neg a2]
  by_cases a3 : a = 3
  · rw [if_pos a3, if_pos a3]
    obtain ⟨s, es, hs⟩ := ofSort_sp (d := 98) em ⟨m0, m1⟩ (fun x x0 x1 => (me x x0 x1).1) (w := 0) (Or.inl rfl) fun x x0 x1 => (ok x x0 x1).1
    refine ⟨_, rfl, ?_⟩
    rw [zI_0, es, cI_rI]
    refine congrArg (rI · σ) (gb_ext fun y y0 y1 => ?_)
    rw [hs y y0 y1, (sets y y0 y1).1, ← Bool.decide_and]
  rw [if_neg a3, if_neg a3]
  by_cases a4 : a = 4
  · rw [if_pos a4, if_pos a4]
    have em' : σ.1 102 69 = zI (rd σ p 0) := (rd_k σ 102 69).trans (congrArg zI em)
    have W : ∃ s, f_M_wedSet 99 σ = rI s σ ∧ ∀ y, 0 ≤ y → y < 32 → gb s y = (decide (y < rd σ p 0) && decide (rd σ (p + 5) y ≠ -1)) := by
      rw [f_M_wedSet_eq, zI_0]
      refine setloop (F := fun i s => f_M_wedSet_4 98 s (zI i) σ) (P := fun y => decide (rd σ (p + 5) y ≠ -1)) (fun i s i0 i1 => ?_) (fun s => ?_) m0 (by omega)
      · show f_M_wedSet_4 98 s (zI i) σ = f_M_wedSet_4 98 _ (zI (i + 1)) σ
        have e1 : σ.1 146 i.toNat = zI (rd σ (p + 5) i) := by rw [rd_k, toNat_c i0, (me i i0 i1).2.2.2.2]
        have b1 := rd_lo σ (p + 5) i; have b2 := rd_hi σ (p + 5) i
        rw [f_M_wedSet_4_eq, em', if_pos (by rw [zI_le (by omega) (by omega)]; exact i1), bnd_zI i0 (by omega) (by omega), ix_zI i0 (by omega), e1, show (-1 : Int32) = zI (-1) from rfl, show (1 : Int32) = zI 1 from zI_lit 1, show (31 : Int32) = zI 31 from zI_lit 31, zI_add]
        by_cases z : rd σ (p + 5) i = -1
        · rw [if_pos (congrArg zI z), decide_eq_false (fun y => y z), if_neg (by decide)]
        · rw [if_neg (by rw [zI_eq (by omega) (by decide)]; exact z), decide_eq_true z, if_pos rfl]
      · show f_M_wedSet_4 98 s (zI (rd σ p 0)) σ = _
        rw [f_M_wedSet_4_eq, em', if_neg Int32.lt_irrefl]
    obtain ⟨s, es, hs⟩ := W
    refine ⟨_, rfl, ?_⟩
    rw [es, cI_rI]
    refine congrArg (rI · σ) (gb_ext fun y y0 y1 => ?_)
    rw [hs y y0 y1, (sets y y0 y1).2, ← Bool.decide_and]
  rw [if_neg a4, if_neg a4]
  by_cases a5 : a = 5
  · rw [if_pos a5, if_pos a5]
    refine ⟨_, rfl, ?_⟩
    rw [show σ.1 102 16 = zI (rd σ l 0) from (rd_k σ 102 16).trans (congrArg zI h.2.2.2.2.1.2.2.1), show σ.1 l 0 = zI (rd σ l 0) from rd_k _ _ _]
  rw [if_neg a5, if_neg a5]
  by_cases a6 : a = 6
  · rw [if_pos a6, if_pos a6]
    refine ⟨_, rfl, ?_⟩
    rw [show σ.1 102 7 = zI (rd σ 5 1) from (rd_k σ 102 7).trans (congrArg zI h.2.1.2.2.1), show σ.1 5 1 = zI (rd σ 5 1) from rd_k _ _ _]
  rw [if_neg a6, if_neg a6]
  by_cases a7 : a = 7
  · rw [if_pos a7, if_pos a7]
    refine ⟨_, rfl, ?_⟩
    show rI (σ.1 103 19) σ = _
    rw [show σ.1 103 19 = zI (vOf σ 87 19) from vm 19 (by decide) (by decide), V.2.2.1]
  rw [if_neg a7, if_neg a7]
  by_cases a8 : a = 8
  · rw [if_pos a8, if_pos a8]
    have e1 := all_sp (a := 87) rfl rfl rfl rfl V.1 (d := 98)
    have e2 := allM_sp (vMo_VM vm) (n := rd σ r 0) ?_ h.2.2.1.mr (d := 98)
    · rw [e1, e2, cI_rI, cI_rI]
      refine ⟨_, rfl, ?_⟩
      rw [vSum_congr (v := vMo σ) (u := vOf σ 87) 6 fun x _ x1 => ⟨vMo_lt σ (by omega), vMo_lt σ (by omega), vMo_lt σ (by omega)⟩]
    · obtain ⟨b1, b2, b3, b4, b5, b6⟩ := hv.1.vb
      refine ⟨fun k h0 h1 => ?_, fun x x1 x0 x6 => ?_, ?_⟩
      · rw [vMo_lt σ (by omega)]; exact b1 k h0 h1
      · rw [vMo_lt σ (by omega), vMo_lt σ (by omega), vMo_lt σ (by omega)]; exact b2 x x1 x0 x6
      · rw [vMo_lt σ (by decide), vMo_lt σ (by decide)]; exact ⟨b3, b4, b5, b6⟩
  rw [if_neg a8, if_neg a8]
  exact ⟨_, rfl, rfl⟩
