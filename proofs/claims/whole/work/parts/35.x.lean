theorem isTried_sp {σ : Sg} {r : Nat} {n : Int} (h1 : σ.2.2 4 1 = r) (h2 : (SH r).1 = 6) (h3 : rd σ r 0 = n) (h4 : 0 ≤ n ∧ n ≤ 6) {d : Nat} {w : Int} (hw : -2147483648 ≤ w ∧ w < 2147483648) : f_N_isTriedWhat (d + 2) (zI w) σ = rI (bz (decide (0 ≤ w ∧ w ≤ 3 ∨ 10 ≤ w ∧ w < 40 ∧ w % 10 < n))) σ := by
  rw [f_N_isTriedWhat_eq]
  by_cases a : 10 ≤ w ∧ w < 40
  · have e := isName_sp h1 h2 h3 h4 (d := d) (a := w % 10) (by omega)
    simp (disch := first | assumption | omega) only [cI_rI, cV_rV, cJ_rJ, rZ_0, rZ_1, rZ_z0, rZ_z1, zI_lit, zI_ofNat, zI_add, zI_sub, zI_mul, zI_neg, Int.cast_ofNat_Int, Int.reduceNeg, Int.reduceAdd, Int.reduceSub, Int.reduceMul, zI_eq, zI_le, ix_zI, bnd_zI, toNat_c, Int.reduceEq, Int.reduceLT, Int.reduceNe, Int.reduceToNat, Int.reduceMul, Int.reduceAdd, Int.zero_add, if_true, if_false, reduceIte, Nat.reduceAdd, rmI_nn, e, bz_0, decide_eq_false_iff_not]
    repeat' split
    all_goals first | exact congrArg (rI · σ) (bz_t (by omega)) | exact congrArg (rI · σ) (bz_f (by omega))
  · by_cases c : w < 0
    · simp (disch := first | assumption | omega) only [cI_rI, cV_rV, cJ_rJ, rZ_0, rZ_1, rZ_z0, rZ_z1, zI_lit, zI_ofNat, zI_add, zI_sub, zI_mul, zI_neg, Int.cast_ofNat_Int, Int.reduceNeg, Int.reduceAdd, Int.reduceSub, Int.reduceMul, zI_eq, zI_le, ix_zI, bnd_zI, toNat_c, Int.reduceEq, Int.reduceLT, Int.reduceNe, Int.reduceToNat, Int.reduceMul, Int.reduceAdd, Int.zero_add, if_true, if_false, reduceIte, Nat.reduceAdd]
      rw [if_pos c, if_pos (by omega)]
      exact congrArg (rI · σ) (bz_f (by omega))
    · by_cases c3 : 3 < w
      · simp (disch := first | assumption | omega) only [cI_rI, cV_rV, cJ_rJ, rZ_0, rZ_1, rZ_z0, rZ_z1, zI_lit, zI_ofNat, zI_add, zI_sub, zI_mul, zI_neg, Int.cast_ofNat_Int, Int.reduceNeg, Int.reduceAdd, Int.reduceSub, Int.reduceMul, zI_eq, zI_le, ix_zI, bnd_zI, toNat_c, Int.reduceEq, Int.reduceLT, Int.reduceNe, Int.reduceToNat, Int.reduceMul, Int.reduceAdd, Int.zero_add, if_true, if_false, reduceIte, Nat.reduceAdd]
        rw [if_neg c, if_pos c3]
        by_cases c4 : w < 10
        · rw [if_pos c4]; exact congrArg (rI · σ) (bz_f (by omega))
        · rw [if_neg c4, if_neg (by omega)]; exact congrArg (rI · σ) (bz_f (by omega))
      · simp (disch := first | assumption | omega) only [cI_rI, cV_rV, cJ_rJ, rZ_0, rZ_1, rZ_z0, rZ_z1, zI_lit, zI_ofNat, zI_add, zI_sub, zI_mul, zI_neg, Int.cast_ofNat_Int, Int.reduceNeg, Int.reduceAdd, Int.reduceSub, Int.reduceMul, zI_eq, zI_le, ix_zI, bnd_zI, toNat_c, Int.reduceEq, Int.reduceLT, Int.reduceNe, Int.reduceToNat, Int.reduceMul, Int.reduceAdd, Int.zero_add, if_true, if_false, reduceIte, Nat.reduceAdd]
        rw [if_neg c, if_neg c3]
        exact congrArg (rI · σ) (bz_t (by omega))
/-- the trial is as the village is -/
theorem trial_sp {σ : Sg} {d : Nat} : ∃ σ1, f_Village_copy (d + 3) 92 87 6 σ = rV σ1 ∧ VR 92 (vOf σ 87) σ1 ∧ σ1.1 92 3 = zI (vOf σ 87 18) ∧ σ1.1 92 4 = zI (vOf σ 87 19) ∧ Fr (SU 92) σ σ1 := by
  obtain ⟨σ1, e, z, z3, z4, F⟩ := copy_sp (a := 92) (b := 87) (by unfold isU; omega) (by unfold isU; omega) (by decide) (k := 6) (by decide) (by decide) (σ := σ) (d := d)
  have V := vOf_VC σ 87
  refine ⟨σ1, e, fun x x0 x6 => ?_, z3.trans V.2.1, z4.trans V.2.2.1, F⟩
  obtain ⟨p1, p2, p3⟩ := z x.toNat (by omega)
  obtain ⟨v1, v2, v3⟩ := V.1 x x0 x6
  rw [p1, p2, p3, if_pos (by omega), if_pos (by omega), if_pos (by omega)]
  exact ⟨v1, v2, v3⟩
def STr (l : Nat) (a k : Nat) : Bool := SVL 92 l a k || SM a k || a == 104
/-- behind a trial all is as it was -/
theorem Inv.trial {σ σ' : Sg} {r p l : Nat} (h : Inv r p l σ) (F : Fr (STr l) σ σ') (h4 : ∀ k : Int, 0 ≤ k → k < 20 → σ'.1 103 k.toNat = zI (vOf σ 87 k)) : Inv r p l σ' := by
  have V := vOf_VC σ 87
  have hb := h.bits
  obtain ⟨-, -, q⟩ := id hb
  refine h.vil F ?_ (v := vOf σ 87) (V.1.fr F ?_ ?_ ?_) ((F.2 _ _ ?_).trans V.2.1) ((F.2 _ _ ?_).trans V.2.2.1) h.2.2.2.2.2.2.1.1.vb h4
  · rcases q with rfl | rfl
    all_goals refine dx_of hb ?_ ?_ rfl ?_
    all_goals repeat (first | exact trivial | refine ⟨fun _ => rfl, ?_⟩ | refine ⟨rfl, ?_⟩)
  all_goals rcases q with rfl | rfl <;> first | exact fun _ => rfl | rfl
theorem trial_all {l : Nat} {σ σ1 σ2 : Sg} (hl : isL l) (F1 : Fr (SU 92) σ σ1) (F2 : Fr (SVL 92 l) σ1 σ2) : Fr (SVL 92 l) σ σ2 := (F1.mono fun a k e => by simp [SVL, SV] at e; simp [SU]; omega).tr F2
theorem c_tried {σ : Sg} {r p l : Nat} (h : Inv r p l σ) (a w : Int32) : Same (f_N_tried 100 a w) (f_M_tried 100 a w) σ := by
  obtain ⟨a, rfl, ha⟩ := zI_ex a
  obtain ⟨w, rfl, hw⟩ := zI_ex w
  obtain ⟨n1, n2, n3, n4⟩ := h.n
  have hl : isL l := h.1.2.2.1
  have hl' := hl.le
  have hlr : σ.2.2 4 5 = l := h.1.2.2.2.2.2.2.2.1
  have iY := isYears_sp (σ := σ) (d := 98) ha
  have iT := isTried_sp n1 n2 rfl n3 (d := 97) hw
  have in1 : ∀ τ, f_M_in 99 (zI a) 1 100 τ = rI (bz (decide (1 ≤ a ∧ a ≤ 100))) τ := fun τ => by
    rw [show (1 : Int32) = zI 1 from zI_lit 1, show (100 : Int32) = zI 100 from zI_lit 100]; exact in_sp ha (by decide) (by decide)
  have in2 : ∀ τ, f_M_in 99 (zI w) 0 3 τ = rI (bz (decide (0 ≤ w ∧ w ≤ 3))) τ := fun τ => by
    rw [zI_0, show (3 : Int32) = zI 3 from zI_lit 3]; exact in_sp hw (by decide) (by decide)
  have wr : ∀ k : Int, 0 ≤ k → k ≤ 30 → ∃ z : Int, zI w - zI k = zI z ∧ (-2147483648 ≤ z ∧ z < 2147483648) ∧ (∀ y, 0 ≤ y → y < 100 → (z = y ↔ w = k + y)) := fun k k0 k1 => by
    obtain ⟨z, e, hz⟩ := zI_ex (zI w - zI k)
    refine ⟨z, e, hz, fun y y0 y1 => ?_⟩
    rw [zI_sub] at e
    constructor
    · intro q; subst q
      by_cases c : -2147483648 ≤ w - k
      · rw [zI_inj c (by omega) (by omega) (by omega)] at e; omega
      · exfalso
        have e' : zI (w - k) = zI (w - k + 4294967296) := by
          have : zI 4294967296 = zI 0 := rfl
          rw [← zI_add, this, zI_add, Int.add_zero]
        rw [e', zI_inj (by omega) (by omega) (by omega) (by omega)] at e; omega
    · intro q; subst q
      rw [zI_inj (by omega) (by omega) hz.1 hz.2] at e; omega
  obtain ⟨w1, e1, b1, q1⟩ := wr 10 (by decide) (by decide)
  obtain ⟨w2, e2, b2, q2⟩ := wr 20 (by decide) (by decide)
  obtain ⟨w3, e3, b3, q3⟩ := wr 30 (by decide) (by decide)
  have iff1 : ∀ {z k : Int}, (∀ y, 0 ≤ y → y < 100 → (z = y ↔ w = k + y)) → ((0 ≤ z ∧ z < rd σ r 0) ↔ k ≤ w ∧ w < k + rd σ r 0) := fun {z k} hz => by
    constructor
    · intro q; have := (hz z q.1 (by omega)).mp rfl; omega
    · intro q; have := (hz (w - k) (by omega) (by omega)).mpr (by omega); omega
  have g1 := iff1 q1; have g2 := iff1 q2; have g3 := iff1 q3
  have in3 : ∀ τ, rd τ 102 5 = rd σ r 0 → f_M_isName 99 (zI w - 10) τ = rI (bz (decide (10 ≤ w ∧ w < 10 + rd σ r 0))) τ ∧ f_M_isName 99 (zI w - 20) τ = rI (bz (decide (20 ≤ w ∧ w < 20 + rd σ r 0))) τ ∧ f_M_isName 99 (zI w - 30) τ = rI (bz (decide (30 ≤ w ∧ w < 30 + rd σ r 0))) τ := fun τ hτ => by
    rw [show (10 : Int32) = zI 10 from zI_lit 10, show (20 : Int32) = zI 20 from zI_lit 20, show (30 : Int32) = zI 30 from zI_lit 30, e1, e2, e3]
    refine ⟨?_, ?_, ?_⟩
    · rw [isNameM_sp hτ n3 (d := 97) b1]; exact congrArg (fun b => rI (bz b) τ) (decide_eq_decide.mpr g1)
    · rw [isNameM_sp hτ n3 (d := 97) b2]; exact congrArg (fun b => rI (bz b) τ) (decide_eq_decide.mpr g2)
    · rw [isNameM_sp hτ n3 (d := 97) b3]; exact congrArg (fun b => rI (bz b) τ) (decide_eq_decide.mpr g3)
  by_cases q : (1 ≤ a ∧ a ≤ 100) ∧ (0 ≤ w ∧ w ≤ 3 ∨ 10 ≤ w ∧ w < 40 ∧ w % 10 < rd σ r 0)
  · -- both go
    obtain ⟨σ1, c1, V1, V18, V19, F1⟩ := trial_sp (σ := σ) (d := 96)
    have hvb := h.2.2.2.2.2.2.1.1.vb
    have vm := h.2.2.2.2.2.2.1.2.vm
    have SUr : ∀ b k, DRule r b k = true → SU 92 b k = false := by have := h.1.1.le; intro b k; simp [DRule, SU]; omega
    have SUl : ∀ b k, DLaw l b k = true → SU 92 b k = false := by intro b k; simp [DLaw, SU]; omega
    obtain ⟨r1, rW1, rH1, rC1, -⟩ := h.2.2.1.1.fr F1 SUr
    have L1 := h.2.2.2.2.1.fr F1 SUl
    have D1 := ldAt_fr F1 SUl
    obtain ⟨σ2, c2, S2, F2⟩ := goBy_sp (a := 92) (Or.inr rfl) hl V1 V18 V19 hvb r1 L1 n3.1 (d := 90) (m := a) (by omega) (by omega)
    rw [D1, rW1, rH1, rC1] at S2
    have F02 := trial_all hl F1 F2
    have m103 : ∀ k : Int, 0 ≤ k → k < 20 → σ2.1 103 k.toNat = zI (vOf σ 87 k) := fun k k0 k1 => (F02.2 _ _ (by simp [SVL, SV, SL]; omega)).trans (vm k k0 k1)
    obtain ⟨σ3, c3, z3, F3⟩ := copies_sp (a := 103) (b := 104) rfl rfl (by decide) (σ := σ2) (d := 98)
    have m3 : ∀ k : Int, 0 ≤ k → k < 20 → σ3.1 103 k.toNat = zI (vOf σ 87 k) := fun k k0 k1 => (F3.2 _ _ rfl).trans (m103 k k0 k1)
    have mr3 := (h.2.2.1.mr.fr F02 (by simp [SVL, SV, SL]; omega) (fun k => by simp [SVL, SV, SL]; omega) (fun k => by simp [SVL, SV, SL]; omega)).fr F3 rfl (fun _ => rfl) fun _ => rfl
    have S104 : ∀ b k, DLaw l b k = true → (fun (c : Nat) (_ : Nat) => c == 104) b k = false := by intro b k; simp [DLaw]; omega
    obtain ⟨σ4, c4, S4, F4⟩ := yearsGo_sp hl (la := 96) (Or.inr rfl) m3 hvb mr3 (S2.2.2.2.2.2.2.1.fr F3 S104) ((ldAt_fr F3 S104).trans S2.2.2.2.2.2.2.2) (d := 93) (m := a) (by omega) (by omega)
    obtain ⟨σ5, c5, z5, F5⟩ := copies_sp (a := 104) (b := 103) rfl rfl (by decide) (σ := σ4) (d := 98)
    generalize hu : vGo l 96 (ldAt l σ) (rd σ (r + 1)) (rd σ (r + 2)) (rd σ (r + 3)) (rd σ r 0).toNat a.toNat (upI (upI (upI (vOf σ 87) 20 0) 21 0) 22 0) = u at S4
    have hu2 : vGo l (92 + 4) (ldAt l σ) (rd σ (r + 1)) (rd σ (r + 2)) (rd σ (r + 3)) (rd σ r 0).toNat a.toNat (upI (upI (upI (vOf σ 87) 20 0) 21 0) 22 0) = u := hu
    rw [hu2] at S2
    have hI : Inv r p l σ5 := by
      refine h.trial ((FrU (FrU F02 F3 (U := STr l) fun a k e => by simp [STr] at e; exact ⟨e.1.1, by simpa using e.2⟩) (FrU F4 F5 (U := STr l) fun a k e => by simp [STr] at e; exact ⟨e.1.2, by have := e.1.2; simp [SM] at this; simp; omega⟩) fun a k e => ⟨e, e⟩)) fun k k0 k1 => ?_
      rw [z5 k.toNat (by omega), F4.2 104 _ rfl, z3 k.toNat (by omega)]; exact m103 k k0 k1
    have gN : ∀ X : Sg → Rs, (cI (f_N_isYears 99 (zI a) σ) fun v2 σ1 => if v2 = 0 then rI (-1) σ1 else cI (f_N_isTriedWhat 99 (zI w) σ1) fun v4 σ3 => if v4 = 0 then rI (-1) σ3 else cV (f_Village_copy 99 92 87 6 σ3) fun σ5 => cV (f_Village_goBy 99 92 (σ5.2.2 4 1) (σ5.2.2 4 5) (zI a) σ5) X) = X σ2 := fun X => by
      have h1 : σ1.2.2 4 1 = r := by rw [F1.1]; exact n1
      have h2 : σ1.2.2 4 5 = l := by rw [F1.1]; exact hlr
      rw [iY, cI_rI, decide_eq_true q.1, bz_tt, if_neg (by decide), iT, cI_rI, decide_eq_true q.2, bz_tt, if_neg (by decide), c1, cV_rV, h1, h2, c2, cV_rV]
    have r2 : rd σ2 102 5 = rd σ r 0 := by rw [fr_rd F02 (by simp [SVL, SV, SL]; omega), n4]
    obtain ⟨j1, j2, j3⟩ := in3 σ2 r2
    have k0 := S4.1.1
    by_cases qa : 0 ≤ w ∧ w ≤ 3
    · -- the sums
      have allN := all_sp (a := 92) rfl rfl rfl rfl S2.1.1 (d := 98)
      have allM := allM_sp S4.1 S4.2.1 S4.2.2.1 (d := 98)
      rcases (show w = 0 ∨ w = 1 ∨ w = 2 ∨ w = 3 by omega) with rfl | rfl | rfl | rfl
      · refine ⟨zI (u 20), σ2, σ5, r, p, l, ?_, ?_, hI⟩
        · rw [f_N_tried_eq, gN]; simp (disch := first | assumption | omega) only [cI_rI, cV_rV, cJ_rJ, rZ_0, rZ_1, rZ_z0, rZ_z1, zI_lit, zI_ofNat, zI_add, zI_sub, zI_mul, zI_neg, Int.cast_ofNat_Int, Int.reduceNeg, Int.reduceAdd, Int.reduceSub, Int.reduceMul, zI_eq, zI_le, ix_zI, bnd_zI, toNat_c, Int.reduceEq, Int.reduceLT, Int.reduceNe, Int.reduceToNat, Int.reduceMul, Int.reduceAdd, Int.zero_add, if_true, if_false, reduceIte, Nat.reduceAdd, S2.1.2.2.2.1]
        · rw [f_M_tried_eq, in1, cI_rI, decide_eq_true q.1, bz_tt, if_neg (by decide), in2, cI_rI, decide_eq_true qa, bz_tt, if_neg (by decide), c3, cV_rV, c4, cV_rV, if_pos (by decide), c5, cV_rV, S4.1.2.1]
      · refine ⟨zI (u 21), σ2, σ5, r, p, l, ?_, ?_, hI⟩
        · rw [f_N_tried_eq, gN]; simp (disch := first | assumption | omega) only [cI_rI, cV_rV, cJ_rJ, rZ_0, rZ_1, rZ_z0, rZ_z1, zI_lit, zI_ofNat, zI_add, zI_sub, zI_mul, zI_neg, Int.cast_ofNat_Int, Int.reduceNeg, Int.reduceAdd, Int.reduceSub, Int.reduceMul, zI_eq, zI_le, ix_zI, bnd_zI, toNat_c, Int.reduceEq, Int.reduceLT, Int.reduceNe, Int.reduceToNat, Int.reduceMul, Int.reduceAdd, Int.zero_add, if_true, if_false, reduceIte, Nat.reduceAdd, S2.1.2.2.2.2.1]
        · rw [f_M_tried_eq, in1, cI_rI, decide_eq_true q.1, bz_tt, if_neg (by decide), in2, cI_rI, decide_eq_true qa, bz_tt, if_neg (by decide), c3, cV_rV, c4, cV_rV, if_neg (by decide), if_pos (by decide), c5, cV_rV, S4.1.2.2.1]
      · refine ⟨zI (u 22), σ2, σ5, r, p, l, ?_, ?_, hI⟩
        · rw [f_N_tried_eq, gN]; simp (disch := first | assumption | omega) only [cI_rI, cV_rV, cJ_rJ, rZ_0, rZ_1, rZ_z0, rZ_z1, zI_lit, zI_ofNat, zI_add, zI_sub, zI_mul, zI_neg, Int.cast_ofNat_Int, Int.reduceNeg, Int.reduceAdd, Int.reduceSub, Int.reduceMul, zI_eq, zI_le, ix_zI, bnd_zI, toNat_c, Int.reduceEq, Int.reduceLT, Int.reduceNe, Int.reduceToNat, Int.reduceMul, Int.reduceAdd, Int.zero_add, if_true, if_false, reduceIte, Nat.reduceAdd, S2.1.2.2.2.2.2]
        · rw [f_M_tried_eq, in1, cI_rI, decide_eq_true q.1, bz_tt, if_neg (by decide), in2, cI_rI, decide_eq_true qa, bz_tt, if_neg (by decide), c3, cV_rV, c4, cV_rV, if_neg (by decide), if_neg (by decide), if_pos (by decide), c5, cV_rV, S4.1.2.2.2]
      · refine ⟨zI (vSum u 6), σ2, σ5, r, p, l, ?_, ?_, hI⟩
        · rw [f_N_tried_eq, gN]; simp (disch := first | assumption | omega) only [cI_rI, cV_rV, cJ_rJ, rZ_0, rZ_1, rZ_z0, rZ_z1, zI_lit, zI_ofNat, zI_add, zI_sub, zI_mul, zI_neg, Int.cast_ofNat_Int, Int.reduceNeg, Int.reduceAdd, Int.reduceSub, Int.reduceMul, zI_eq, zI_le, ix_zI, bnd_zI, toNat_c, Int.reduceEq, Int.reduceLT, Int.reduceNe, Int.reduceToNat, Int.reduceMul, Int.reduceAdd, Int.zero_add, if_true, if_false, reduceIte, Nat.reduceAdd, allN]
        · rw [f_M_tried_eq, in1, cI_rI, decide_eq_true q.1, bz_tt, if_neg (by decide), in2, cI_rI, decide_eq_true qa, bz_tt, if_neg (by decide), c3, cV_rV, c4, cV_rV, if_neg (by decide), if_neg (by decide), if_neg (by decide), if_pos (by decide), allM, cI_rI, c5, cV_rV]
    · have qb := q.2.resolve_left qa
      have sm := some_sp (a := 92) rfl rfl rfl rfl S2.1.1 (d := 98) (x := w % 10) (w := w / 10 - 1) (by omega) (by omega) (by omega)
      have eN : f_N_tried 100 (zI a) (zI w) σ = rI (zI (u (6 * (w / 10 - 1) + w % 10))) σ2 := by
        rw [f_N_tried_eq, gN]
        have x0 : ¬ w = 0 ∧ ¬ w = 1 ∧ ¬ w = 2 ∧ ¬ w = 3 := by omega
        simp (disch := first | assumption | omega) only [cI_rI, cV_rV, cJ_rJ, rZ_0, rZ_1, rZ_z0, rZ_z1, zI_lit, zI_ofNat, zI_add, zI_sub, zI_mul, zI_neg, Int.cast_ofNat_Int, Int.reduceNeg, Int.reduceAdd, Int.reduceSub, Int.reduceMul, zI_eq, zI_le, ix_zI, bnd_zI, toNat_c, Int.reduceEq, Int.reduceLT, Int.reduceNe, Int.reduceToNat, Int.reduceMul, Int.reduceAdd, Int.zero_add, if_true, if_false, reduceIte, Nat.reduceAdd, x0.1, x0.2.1, x0.2.2.1, x0.2.2.2, rmI_nn, dvI_nn, sm]
      have y0 : ¬ zI w = 0 ∧ ¬ zI w = 1 ∧ ¬ zI w = 2 ∧ ¬ zI w = 3 := by
        rw [zI_0, show (1 : Int32) = zI 1 from zI_lit 1, show (2 : Int32) = zI 2 from zI_lit 2, show (3 : Int32) = zI 3 from zI_lit 3, zI_eq hw (by decide), zI_eq hw (by decide), zI_eq hw (by decide), zI_eq hw (by decide)]; omega
      have t20 : zI w < 20 ↔ w < 20 := by rw [show (20 : Int32) = zI 20 from zI_lit 20, zI_le hw (by decide)]
      have t30 : zI w < 30 ↔ w < 30 := by rw [show (30 : Int32) = zI 30 from zI_lit 30, zI_le hw (by decide)]
      rcases (show w < 20 ∨ 20 ≤ w ∧ w < 30 ∨ 30 ≤ w by omega) with c | c | c
      · have mm := k0 (w - 10) (by omega) (by omega)
        refine ⟨_, σ2, σ5, r, p, l, eN, ?_, hI⟩
        rw [f_M_tried_eq, in1, cI_rI, decide_eq_true q.1, bz_tt, if_neg (by decide), in2, cI_rI, decide_eq_false qa, bz_ff, if_pos (by decide), j1, cI_rI, decide_eq_true (by omega), bz_tt, if_neg (by decide), c3, cV_rV, c4, cV_rV, if_neg y0.1, if_neg y0.2.1, if_neg y0.2.2.1, if_neg y0.2.2.2, if_pos (t20.mpr c)]
        simp (disch := first | assumption | omega) only [cI_rI, cV_rV, cJ_rJ, rZ_0, rZ_1, rZ_z0, rZ_z1, zI_lit, zI_ofNat, zI_add, zI_sub, zI_mul, zI_neg, Int.cast_ofNat_Int, Int.reduceNeg, Int.reduceAdd, Int.reduceSub, Int.reduceMul, toNat_c, Int.reduceEq, Int.reduceLT, Int.reduceNe, Int.reduceToNat, Int.reduceMul, Int.reduceAdd, Int.zero_add, if_true, if_false, reduceIte, Nat.reduceAdd, bnd_zI, ix_zI, c5, mm]
        rw [show 6 * (w / 10 - 1) + w % 10 = w - 10 by omega]
      · have mm := k0 (6 + w - 20) (by omega) (by omega)
        refine ⟨_, σ2, σ5, r, p, l, eN, ?_, hI⟩
        rw [f_M_tried_eq, in1, cI_rI, decide_eq_true q.1, bz_tt, if_neg (by decide), in2, cI_rI, decide_eq_false qa, bz_ff, if_pos (by decide), j1, cI_rI, decide_eq_false (by omega), bz_ff, if_pos (by decide), j2, cI_rI, decide_eq_true (by omega), bz_tt, if_neg (by decide), c3, cV_rV, c4, cV_rV, if_neg y0.1, if_neg y0.2.1, if_neg y0.2.2.1, if_neg y0.2.2.2, if_neg (fun z => by have := t20.mp z; omega), if_pos (t30.mpr c.2)]
        simp (disch := first | assumption | omega) only [cI_rI, cV_rV, cJ_rJ, rZ_0, rZ_1, rZ_z0, rZ_z1, zI_lit, zI_ofNat, zI_add, zI_sub, zI_mul, zI_neg, Int.cast_ofNat_Int, Int.reduceNeg, Int.reduceAdd, Int.reduceSub, Int.reduceMul, toNat_c, Int.reduceEq, Int.reduceLT, Int.reduceNe, Int.reduceToNat, Int.reduceMul, Int.reduceAdd, Int.zero_add, if_true, if_false, reduceIte, Nat.reduceAdd, bnd_zI, ix_zI, c5, mm]
        rw [show 6 * (w / 10 - 1) + w % 10 = 6 + w - 20 by omega]
      · have mm := k0 (12 + w - 30) (by omega) (by omega)
        refine ⟨_, σ2, σ5, r, p, l, eN, ?_, hI⟩
        rw [f_M_tried_eq, in1, cI_rI, decide_eq_true q.1, bz_tt, if_neg (by decide), in2, cI_rI, decide_eq_false qa, bz_ff, if_pos (by decide), j1, cI_rI, decide_eq_false (by omega), bz_ff, if_pos (by decide), j2, cI_rI, decide_eq_false (by omega), bz_ff, if_pos (by decide), j3, cI_rI, decide_eq_true (by omega), bz_tt, if_neg (by decide), c3, cV_rV, c4, cV_rV, if_neg y0.1, if_neg y0.2.1, if_neg y0.2.2.1, if_neg y0.2.2.2, if_neg (fun z => by have := t20.mp z; omega), if_neg (fun z => by have := t30.mp z; omega)]
        simp (disch := first | assumption | omega) only [cI_rI, cV_rV, cJ_rJ, rZ_0, rZ_1, rZ_z0, rZ_z1, zI_lit, zI_ofNat, zI_add, zI_sub, zI_mul, zI_neg, Int.cast_ofNat_Int, Int.reduceNeg, Int.reduceAdd, Int.reduceSub, Int.reduceMul, toNat_c, Int.reduceEq, Int.reduceLT, Int.reduceNe, Int.reduceToNat, Int.reduceMul, Int.reduceAdd, Int.zero_add, if_true, if_false, reduceIte, Nat.reduceAdd, bnd_zI, ix_zI, c5, mm]
        rw [show 6 * (w / 10 - 1) + w % 10 = 12 + w - 30 by omega]
  · obtain ⟨j1, j2, j3⟩ := in3 σ n4
    refine ⟨-1, σ, σ, r, p, l, ?_, ?_, h⟩
    · rw [f_N_tried_eq, iY, cI_rI, iT]
      by_cases z : 1 ≤ a ∧ a ≤ 100
      · rw [decide_eq_true z, bz_tt, if_neg (by decide), cI_rI, decide_eq_false (fun y => q ⟨z, y⟩), bz_ff, if_pos (by decide)]
      · rw [decide_eq_false z, bz_ff, if_pos (by decide)]
    · rw [f_M_tried_eq, in1, cI_rI]
      by_cases z : 1 ≤ a ∧ a ≤ 100
      · rw [decide_eq_true z, bz_tt, if_neg (by decide), in2, cI_rI, decide_eq_false (by omega), bz_ff, if_pos (by decide), j1, cI_rI, decide_eq_false (by omega), bz_ff, if_pos (by decide), j2, cI_rI, decide_eq_false (by omega), bz_ff, if_pos (by decide), j3, cI_rI, decide_eq_false (by omega), bz_ff, if_pos (by decide)]
      · rw [decide_eq_false z, bz_ff, if_pos (by decide)]
