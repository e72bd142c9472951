theorem part_le {m w : Int} (h0 : 0 ≤ m) (h1 : m ≤ 9999) (h2 : 0 ≤ w) (h3 : w ≤ 300) : 0 ≤ m * w ∧ m * w ≤ 2999700 ∧ m * w ≤ m * 300 ∧ (w ≤ 100 → m * w ≤ m * 100) := by
  have a := Int.mul_nonneg h0 h2
  have b := Int.mul_le_mul_of_nonneg_left h3 h0
  exact ⟨a, by omega, b, fun q => Int.mul_le_mul_of_nonneg_left q h0⟩
def vWed (W : Int → Int) (x : Int) (any : Bool) (wo : Int) (v : Int → Int) : Int → Int := if any = true then v else upI (upI (upI (upI v x (v x - min (min (v x) (v (6 + W x)) * wo / 100) (9999 - v (12 + x)))) (6 + W x) (v (6 + W x) - min (min (v x) (v (6 + W x)) * wo / 100) (9999 - v (12 + x)))) (12 + x) (v (12 + x) + min (min (v x) (v (6 + W x)) * wo / 100) (9999 - v (12 + x)))) 20 (v 20 + min (min (v x) (v (6 + W x)) * wo / 100) (9999 - v (12 + x)))
def vBoys (v : Int → Int) (more : Int) : Int := if v 19 % 10 % 2 = 0 then more - more / 2 else more / 2
def vBear (W C : Int → Int) (x : Int) (wo : Int) (v : Int → Int) : Int → Int := upI (upI (upI v (C (W x)) (min 9999 (v (C (W x)) + vBoys v (v (12 + x) * wo / 100)))) (6 + C (W x)) (min 9999 (v (6 + C (W x)) + v (12 + x) * wo / 100 - vBoys v (v (12 + x) * wo / 100)))) 21 (v 21 + v (12 + x) * wo / 100)
def vDie (x : Int) (wo : Int) (v : Int → Int) : Int → Int := upI (upI (upI (upI v x (v x - v x * wo / 100)) (6 + x) (v (6 + x) - v (6 + x) * wo / 100)) (12 + x) (v (12 + x) - v (12 + x) * wo / 100)) 22 (v 22 + (v x * wo / 100 + v (6 + x) * wo / 100 + 2 * (v (12 + x) * wo / 100)))
def SVL (a l b k : Nat) : Bool := SV a b k || SL l b k
theorem VC.put {a : Nat} {v : Int → Int} {σ : Sg} (h : VC a v σ) {x y : Int} (x0 : 0 ≤ x) (x6 : x < 6) : VC a (upI v x y) (sI σ (a + 1) x.toNat (zI y)) ∧ VC a (upI v (6 + x) y) (sI σ (a + 2) x.toNat (zI y)) ∧ VC a (upI v (12 + x) y) (sI σ (a + 3) x.toNat (zI y)) := by
  obtain ⟨hR, a3, a4, a5, a6, a7⟩ := h
  refine ⟨⟨fun z z0 z6 => ?_, ?_, ?_, ?_, ?_, ?_⟩, ⟨fun z z0 z6 => ?_, ?_, ?_, ?_, ?_, ?_⟩, ⟨fun z z0 z6 => ?_, ?_, ?_, ?_, ?_, ?_⟩⟩
  all_goals try (rw [sI_row _ _ _ _ _ (by omega), upI_ne _ _ (by omega)]; assumption)
  all_goals obtain ⟨p1, p2, p3⟩ := hR z z0 z6
  · rw [sI_row _ _ _ _ (b := a + 2) _ (by omega), sI_row _ _ _ _ (b := a + 3) _ (by omega), upI_ne (j := 6 + z) _ _ (by omega), upI_ne (j := 12 + z) _ _ (by omega)]
    refine ⟨?_, p2, p3⟩
    by_cases q : z = x
    · subst q; rw [sI_same, upI_same]
    · rw [sI_slot _ _ _ _ (by omega), upI_ne _ _ q]; exact p1
  · rw [sI_row _ _ _ _ (b := a + 1) _ (by omega), sI_row _ _ _ _ (b := a + 3) _ (by omega), upI_ne (j := z) _ _ (by omega), upI_ne (j := 12 + z) _ _ (by omega)]
    refine ⟨p1, ?_, p3⟩
    by_cases q : z = x
    · subst q; rw [sI_same, upI_same]
    · rw [sI_slot _ _ _ _ (by omega), upI_ne _ _ (by omega)]; exact p2
  · rw [sI_row _ _ _ _ (b := a + 1) _ (by omega), sI_row _ _ _ _ (b := a + 2) _ (by omega), upI_ne (j := z) _ _ (by omega), upI_ne (j := 6 + z) _ _ (by omega)]
    refine ⟨p1, p2, ?_⟩
    by_cases q : z = x
    · subst q; rw [sI_same, upI_same]
    · rw [sI_slot _ _ _ _ (by omega), upI_ne _ _ (by omega)]; exact p3
theorem VC.cnt {a : Nat} {v : Int → Int} {σ : Sg} (h : VC a v σ) (y : Int) : VC a (upI v 20 y) (sI σ a 5 (zI y)) ∧ VC a (upI v 21 y) (sI σ a 6 (zI y)) ∧ VC a (upI v 22 y) (sI σ a 7 (zI y)) ∧ VC a (upI v 18 y) (sI σ a 3 (zI y)) := by
  obtain ⟨hR, a3, a4, a5, a6, a7⟩ := h
  refine ⟨⟨fun z z0 z6 => ?_, ?_, ?_, ?_, ?_, ?_⟩, ⟨fun z z0 z6 => ?_, ?_, ?_, ?_, ?_, ?_⟩, ⟨fun z z0 z6 => ?_, ?_, ?_, ?_, ?_, ?_⟩, ⟨fun z z0 z6 => ?_, ?_, ?_, ?_, ?_, ?_⟩⟩
  all_goals try (rw [sI_slot _ _ _ _ (by decide), upI_ne _ _ (by decide)]; assumption)
  all_goals try (rw [sI_same, upI_same]; done)
  all_goals rw [sI_row _ _ _ _ _ (by omega), sI_row _ _ _ _ _ (by omega), sI_row _ _ _ _ _ (by omega), upI_ne _ _ (by omega), upI_ne _ _ (by omega), upI_ne _ _ (by omega)]
  all_goals exact hR z z0 z6
/-- what is at hand in each step -/
def VH (a l r : Nat) (n : Int) (v : Int → Int) (fac : Int → Int32) (σ : Sg) : Prop := VC a v σ ∧ RuleAt σ r n ∧ ILaw l σ ∧ ∀ j : Int, 0 ≤ j → j < 8 → σ.1 (a + 4) j.toNat = fac j
theorem SL_r {l r : Nat} (hl : isL l) (hr : isR r) : ∀ a k, DRule r a k = true → SL l a k = false := by
  have := hl.le; have := hr.le
  intro a k; simp [DRule, SL]; omega
theorem VH_SL {a l r : Nat} {n : Int} {v : Int → Int} {fac : Int → Int32} {σ σ' : Sg} (ha : isV a) (hl : isL l) (h : VH a l r n v fac σ) (F : Fr (SL l) σ σ') : VH a l r n v fac σ' ∧ rd σ' (r + 1) = rd σ (r + 1) ∧ rd σ' (r + 3) = rd σ (r + 3) ∧ ldAt l σ' = ldAt l σ ∧ rd σ' l 0 = rd σ l 0 := by
  have ha' := ha.le; have hl' := hl.le
  obtain ⟨h1, h2, h3, h4⟩ := h
  obtain ⟨g1, g2, -, g3, -⟩ := h2.fr F (SL_r hl h2.1)
  refine ⟨⟨h1.fr F ?_, g1, h3.fr F (SL_D hl), fun j j0 j8 => (F.2 (a + 4) _ (by simp [SL]; omega)).trans (h4 j j0 j8)⟩, g2, g3, ldAt_fr F (SL_D hl), fr_rd F (SL_D hl _ _ (by simp [DLaw]))⟩
  intro b k; simp [SV, SL]; omega
theorem wedSome_sp {a l r : Nat} {n : Int} {v : Int → Int} {fac : Int → Int32} {σ : Sg} (ha : isV a) (hl : isL l) (h : VH a l r n v fac σ) (hb : VB n v) {d : Nat} {x : Int} (h0 : 0 ≤ x) (h1 : x < n) : ∃ σ', f_Village_wedSome (d + 8) a r l (zI x) σ = rV σ' ∧ VC a (vWed (rd σ (r + 1)) x (lAny l (a + 4) (ldAt l σ) fac 120 (rd σ l 0).toNat 0) (lWorth l (a + 4) (ldAt l σ) fac 119 50 100 (rd σ l 0).toNat 0) v) σ' ∧ Fr (SVL a l) σ σ' := by
  have hla : a + 4 = 91 ∨ a + 4 = 96 := by have := ha.le; omega
  have ha' := ha.le; have hl' := hl.le; have hr' := h.2.1.1.le
  have n6 : n ≤ 6 := h.2.1.2.2.1
  obtain ⟨w1, -, -, c1, c2, -⟩ := ru h.2.1 h0 h1
  obtain ⟨σ1, e1, F1⟩ := anyN hl hla (kind := 120) (by decide) h.2.2.1 h.2.2.2 (d := d)
  obtain ⟨H1, k1, -, k2, k3⟩ := VH_SL ha hl h F1
  rw [f_Village_wedSome_eq, gfS_of ha.s0, ofs_8_8, gdK_of hl.s0, show (120 : Int32) = zI 120 from zI_lit 120, e1, cI_rI]
  have FL : ∀ {τ τ' : Sg}, Fr (SL l) τ τ' → Fr (SVL a l) τ τ' := fun F => F.mono fun b k e => by simp [SVL] at e; exact e.2
  cases hany : lAny l (a + 4) (ldAt l σ) fac 120 (rd σ l 0).toNat 0 with
  | true =>
    refine ⟨σ1, ?_, ?_, FL F1⟩
    · rw [bz_tt, if_neg (by decide)]
    · unfold vWed; rw [if_pos rfl]; exact H1.1
  | false =>
    obtain ⟨σ2, e2, F2⟩ := worthN hl hla (kind := 119) (no := 50) (most := 100) (by decide) (by decide) H1.2.2.1 H1.2.2.2 (d := d)
    obtain ⟨H2, k4, -, k5, k6⟩ := VH_SL ha hl H1 F2
    rw [k2, k3] at e2
    have hwo := lWorth_bd (l := l) (la := a + 4) (D := ldAt l σ) (fac := fac) (kind := 119) (no := 50) (most := 100) (by decide) (rd σ l 0).toNat 0
    generalize lWorth l (a + 4) (ldAt l σ) fac 119 50 100 (rd σ l 0).toNat 0 = wo at e2 hwo
    have w1' : σ1.1 (r + 1) x.toNat = zI (rd σ (r + 1) x) := by rw [← k1, rd_k, toNat_c h0]
    generalize rd σ (r + 1) = W at w1' c1 c2
    obtain ⟨q1, -, q3⟩ := H1.1.1 x h0 (by omega)
    obtain ⟨-, q2, -⟩ := H1.1.1 (W x) c1 (by omega)
    obtain ⟨q4, -, q6⟩ := H2.1.1 x h0 (by omega)
    have b1 := hb.1 x h0 (by omega); have b2 := hb.1 (6 + W x) (by omega) (by omega); have b3 := hb.1 (12 + x) (by omega) (by omega)
    have pl := part_le (m := min (v x) (v (6 + W x))) (w := wo) (by omega) (by omega) hwo.1 (by omega)
    -- the states
    have P1 := (H2.1.put (y := v x - min (min (v x) (v (6 + W x)) * wo / 100) (9999 - v (12 + x))) h0 (by omega)).1
    have G1 : Fr (SVL a l) σ2 (sI σ2 (a + 1) x.toNat (zI (v x - min (min (v x) (v (6 + W x)) * wo / 100) (9999 - v (12 + x))))) := (Fr.rf _ _).sI _ (by simp [SVL, SV])
    generalize hs1 : sI σ2 (a + 1) x.toNat (zI (v x - min (min (v x) (v (6 + W x)) * wo / 100) (9999 - v (12 + x)))) = s1 at P1 G1
    have P2 := (P1.put (x := W x) (y := v (6 + W x) - min (min (v x) (v (6 + W x)) * wo / 100) (9999 - v (12 + x))) c1 (by omega)).2.1
    have G2 := G1.sI (zI (v (6 + W x) - min (min (v x) (v (6 + W x)) * wo / 100) (9999 - v (12 + x)))) (show SVL a l (a + 2) (W x).toNat = true by simp [SVL, SV])
    have r1 := (P1.1 (W x) c1 (by omega)).2.1
    rw [upI_ne _ _ (by omega)] at r1
    generalize hs2 : sI s1 (a + 2) (W x).toNat (zI (v (6 + W x) - min (min (v x) (v (6 + W x)) * wo / 100) (9999 - v (12 + x)))) = s2 at P2 G2
    have P3 := (P2.put (x := x) (y := v (12 + x) + min (min (v x) (v (6 + W x)) * wo / 100) (9999 - v (12 + x))) h0 (by omega)).2.2
    have G3 := G2.sI (zI (v (12 + x) + min (min (v x) (v (6 + W x)) * wo / 100) (9999 - v (12 + x)))) (show SVL a l (a + 3) x.toNat = true by simp [SVL, SV])
    have r2 := (P2.1 x h0 (by omega)).2.2
    rw [upI_ne _ _ (by omega), upI_ne _ _ (by omega)] at r2
    generalize hs3 : sI s2 (a + 3) x.toNat (zI (v (12 + x) + min (min (v x) (v (6 + W x)) * wo / 100) (9999 - v (12 + x)))) = s3 at P3 G3
    have P4 := (P3.cnt (v 20 + min (min (v x) (v (6 + W x)) * wo / 100) (9999 - v (12 + x)))).1
    have G4 := G3.sI (zI (v 20 + min (min (v x) (v (6 + W x)) * wo / 100) (9999 - v (12 + x)))) (show SVL a l a 5 = true by simp [SVL, SV])
    have r3 := P3.2.2.2.1
    rw [upI_ne _ _ (by omega), upI_ne _ _ (by omega), upI_ne _ _ (by omega)] at r3
    refine ⟨_, ?_, ?_, ((FL F1).tr (FL F2)).tr G4⟩
    · have p0 := ha.s0; have p1 := ha.s1; have p2 := ha.s2; have p3 := ha.s3
      have t0 := h.2.1.1.s0; have t1 := h.2.1.1.s1; have t2 := hl.s0
      simp (disch := first | assumption | omega) only [cI_rI, cV_rV, cJ_rJ, rZ_0, rZ_1, rZ_z0, rZ_z1, zI_lit, zI_ofNat, zI_add, zI_sub, zI_mul, zI_neg, Int.cast_ofNat_Int, Int.reduceNeg, Int.reduceAdd, Int.reduceSub, Int.reduceMul, ofs_0_0, ofs_0_1, ofs_0_2, ofs_0_3, ofs_0_4, ofs_1_0, ofs_1_1, ofs_1_2, ofs_1_3, ofs_1_4, ofs_1_5, ofs_2_1, ofs_2_2, ofs_2_3, ofs_2_4, ofs_2_6, ofs_2_7, ofs_2_8, ofs_3_0, ofs_3_1, ofs_3_2, ofs_3_3, ofs_4_1, ofs_4_2, ofs_4_3, ofs_4_4, ofs_4_5, ofs_4_6, ofs_4_7, ofs_5_1, ofs_5_2, ofs_5_3, ofs_5_4, ofs_5_6, ofs_6_1, ofs_6_2, ofs_6_3, ofs_6_4, ofs_7_0, ofs_8_0, ofs_8_1, ofs_8_2, ofs_8_8, ofs_9_1, ofs_9_2, ofs_9_4, ofs_9_5, ofs_9_6, ofs_10_0, ofs_10_7, ofs_10_8, ofs_10_9, ofs_10_10, ofs_10_11, ofs_10_12, ofs_10_13, ofs_10_14, ofs_10_15, ofs_11_0, ofs_11_1, ofs_11_2, ofs_11_3, ofs_11_4, ofs_11_6, ofs_11_17, ofs_11_18, ofs_11_19, ofs_11_20, ofs_11_21, ofs_11_22, ofs_11_23, ofs_11_24, ofs_11_25, ofs_11_26, ofs_11_27, ofs_11_28, ofs_11_29, ofs_11_30, ofs_11_31, ofs_11_33, ofs_11_34, ofs_11_35, ofs_11_36, ofs_11_37, ofs_11_43, ofs_11_44, ofs_11_45, ofs_11_47, ofs_11_48, ofs_11_49, ofs_11_50, ofs_11_51, ofs_11_52, ofs_11_54, ofs_11_55, ofs_11_56, ofs_11_57, ofs_11_59, ofs_11_60, ofs_11_61, ofs_11_62, ofs_11_63, ofs_11_64, ofs_11_65, ofs_11_66, ofs_11_67, ofs_11_68, ofs_11_71, ofs_11_74, ofs_11_75, ofs_11_76, ofs_11_77, ofs_11_78, bz_ff, gfI_of, gfS_of, gdK_of, pfI_of, ldI_of, stI_of, w1', q1, q2, q3, e2, mnI_zI, dvI_nn, q4, q6, hs1, r1, hs2, r2, hs3, r3, if_true]
    · unfold vWed
      rw [if_neg (by decide)]
      exact P4

theorem FLv {a l : Nat} {τ τ' : Sg} (F : Fr (SL l) τ τ') : Fr (SVL a l) τ τ' := F.mono fun b k e => by simp [SVL] at e; exact e.2
theorem FVv {a l : Nat} {τ τ' : Sg} (F : Fr (SV a) τ τ') : Fr (SVL a l) τ τ' := F.mono fun b k e => by simp [SVL] at e; exact e.1
theorem bearSome_sp {a l r : Nat} {n : Int} {v : Int → Int} {fac : Int → Int32} {σ : Sg} (ha : isV a) (hl : isL l) (h : VH a l r n v fac σ) (hf7 : fac 7 = zI (v 19 % 10)) (hb : VB n v) {d : Nat} {x : Int} (h0 : 0 ≤ x) (h1 : x < n) : ∃ σ', f_Village_bearSome (d + 8) a r l (zI x) σ = rV σ' ∧ VC a (vBear (rd σ (r + 1)) (rd σ (r + 3)) x (lWorth l (a + 4) (ldAt l σ) fac 98 40 300 (rd σ l 0).toNat 0) v) σ' ∧ Fr (SVL a l) σ σ' := by
  have hla : a + 4 = 91 ∨ a + 4 = 96 := by have := ha.le; omega
  have ha' := ha.le; have hl' := hl.le; have hr' := h.2.1.1.le
  have n6 : n ≤ 6 := h.2.1.2.2.1
  obtain ⟨w1, -, -, c1, c2, -⟩ := ru h.2.1 h0 h1
  obtain ⟨-, -, w3, -, -, -, -, c3, c4, -⟩ := ru h.2.1 c1 c2
  obtain ⟨σ1, e1, F1⟩ := worthN hl hla (kind := 98) (no := 40) (most := 300) (by decide) (by decide) h.2.2.1 h.2.2.2 (d := d)
  obtain ⟨H1, k1, k1', k2, k3⟩ := VH_SL ha hl h F1
  have hwo := lWorth_bd (l := l) (la := a + 4) (D := ldAt l σ) (fac := fac) (kind := 98) (no := 40) (most := 300) (by decide) (rd σ l 0).toNat 0
  generalize lWorth l (a + 4) (ldAt l σ) fac 98 40 300 (rd σ l 0).toNat 0 = wo at e1 hwo
  have w1' : σ1.1 (r + 1) x.toNat = zI (rd σ (r + 1) x) := by rw [← k1, rd_k, toNat_c h0]
  generalize rd σ (r + 1) = W at w1' c1 c2 c3 c4 w3
  have w3' : σ1.1 (r + 3) (W x).toNat = zI (rd σ (r + 3) (W x)) := by rw [← k1', rd_k, toNat_c c1]
  generalize rd σ (r + 3) = C at w3' c3 c4
  obtain ⟨-, -, q3⟩ := h.1.1 x h0 (by omega)
  obtain ⟨q4, -, -⟩ := H1.1.1 (C (W x)) c3 (by omega)
  have b1 := hb.1 (C (W x)) (by omega) (by omega); have b2 := hb.1 (6 + C (W x)) (by omega) (by omega); have b3 := hb.1 (12 + x) (by omega) (by omega)
  have b4 := hb.2.2.2.2
  have pl := part_le (m := v (12 + x)) (w := wo) (by omega) (by omega) hwo.1 hwo.2
  have f7 : σ1.1 (a + 4) 7 = zI (v 19 % 10) := by rw [← hf7]; exact H1.2.2.2 7 (by decide) (by decide)
  have hbo : 0 ≤ vBoys v (v (12 + x) * wo / 100) ∧ vBoys v (v (12 + x) * wo / 100) ≤ v (12 + x) * wo / 100 := by unfold vBoys; split <;> omega
  have P1 := (H1.1.put (y := min 9999 (v (C (W x)) + vBoys v (v (12 + x) * wo / 100))) c3 (by omega)).1
  have G1 : Fr (SVL a l) σ1 (sI σ1 (a + 1) (C (W x)).toNat (zI (min 9999 (v (C (W x)) + vBoys v (v (12 + x) * wo / 100))))) := (Fr.rf _ _).sI _ (by simp [SVL, SV])
  generalize hs1 : sI σ1 (a + 1) (C (W x)).toNat (zI (min 9999 (v (C (W x)) + vBoys v (v (12 + x) * wo / 100)))) = s1 at P1 G1
  have r1 := (P1.1 (C (W x)) c3 (by omega)).2.1
  rw [upI_ne _ _ (by omega)] at r1
  have P2 := (P1.put (x := C (W x)) (y := min 9999 (v (6 + C (W x)) + v (12 + x) * wo / 100 - vBoys v (v (12 + x) * wo / 100))) c3 (by omega)).2.1
  have G2 := G1.sI (zI (min 9999 (v (6 + C (W x)) + v (12 + x) * wo / 100 - vBoys v (v (12 + x) * wo / 100)))) (show SVL a l (a + 2) (C (W x)).toNat = true by simp [SVL, SV])
  generalize hs2 : sI s1 (a + 2) (C (W x)).toNat (zI (min 9999 (v (6 + C (W x)) + v (12 + x) * wo / 100 - vBoys v (v (12 + x) * wo / 100)))) = s2 at P2 G2
  have r2 := P2.2.2.2.2.1
  rw [upI_ne _ _ (by omega), upI_ne _ _ (by omega)] at r2
  have P3 := (P2.cnt (v 21 + v (12 + x) * wo / 100)).2.1
  have G3 := G2.sI (zI (v 21 + v (12 + x) * wo / 100)) (show SVL a l a 6 = true by simp [SVL, SV])
  refine ⟨_, ?_, P3, (FLv F1).tr G3⟩
  have p0 := ha.s0; have p1 := ha.s1; have p2 := ha.s2; have p3 := ha.s3; have p4 := ha.s4
  have t0 := h.2.1.1.s0; have t1 := h.2.1.1.s1; have t3 := h.2.1.1.s3; have t2 := hl.s0
  rw [f_Village_bearSome_eq]
  by_cases ev : v 19 % 10 % 2 = 0
  · have hvb : vBoys v (v (12 + x) * wo / 100) = v (12 + x) * wo / 100 - v (12 + x) * wo / 100 / 2 := by unfold vBoys; rw [if_pos ev]
    rw [hvb] at hs1 hs2
    rw [hvb] at hbo
    simp (disch := first | assumption | omega) only [cI_rI, cV_rV, cJ_rJ, rZ_0, rZ_1, rZ_z0, rZ_z1, zI_lit, zI_ofNat, zI_add, zI_sub, zI_mul, zI_neg, Int.cast_ofNat_Int, Int.reduceNeg, Int.reduceAdd, Int.reduceSub, Int.reduceMul, ofs_0_0, ofs_0_1, ofs_0_2, ofs_0_3, ofs_0_4, ofs_1_0, ofs_1_1, ofs_1_2, ofs_1_3, ofs_1_4, ofs_1_5, ofs_2_1, ofs_2_2, ofs_2_3, ofs_2_4, ofs_2_6, ofs_2_7, ofs_2_8, ofs_3_0, ofs_3_1, ofs_3_2, ofs_3_3, ofs_4_1, ofs_4_2, ofs_4_3, ofs_4_4, ofs_4_5, ofs_4_6, ofs_4_7, ofs_5_1, ofs_5_2, ofs_5_3, ofs_5_4, ofs_5_6, ofs_6_1, ofs_6_2, ofs_6_3, ofs_6_4, ofs_7_0, ofs_8_0, ofs_8_1, ofs_8_2, ofs_8_8, ofs_9_1, ofs_9_2, ofs_9_4, ofs_9_5, ofs_9_6, ofs_10_0, ofs_10_7, ofs_10_8, ofs_10_9, ofs_10_10, ofs_10_11, ofs_10_12, ofs_10_13, ofs_10_14, ofs_10_15, ofs_11_0, ofs_11_1, ofs_11_2, ofs_11_3, ofs_11_4, ofs_11_6, ofs_11_17, ofs_11_18, ofs_11_19, ofs_11_20, ofs_11_21, ofs_11_22, ofs_11_23, ofs_11_24, ofs_11_25, ofs_11_26, ofs_11_27, ofs_11_28, ofs_11_29, ofs_11_30, ofs_11_31, ofs_11_33, ofs_11_34, ofs_11_35, ofs_11_36, ofs_11_37, ofs_11_43, ofs_11_44, ofs_11_45, ofs_11_47, ofs_11_48, ofs_11_49, ofs_11_50, ofs_11_51, ofs_11_52, ofs_11_54, ofs_11_55, ofs_11_56, ofs_11_57, ofs_11_59, ofs_11_60, ofs_11_61, ofs_11_62, ofs_11_63, ofs_11_64, ofs_11_65, ofs_11_66, ofs_11_67, ofs_11_68, ofs_11_71, ofs_11_74, ofs_11_75, ofs_11_76, ofs_11_77, ofs_11_78, Int.reduceToNat, gfI_of, gfS_of, gdK_of, pfI_of, ldI_of, stI_of, q3, e1, dvI_nn, rmI_nn, f7, ev, if_true, w1', w3', q4, mnI_zI, hs1, r1, hs2, r2]
  · have hvb : vBoys v (v (12 + x) * wo / 100) = v (12 + x) * wo / 100 / 2 := by unfold vBoys; rw [if_neg ev]
    have ev' : (zI (v 19 % 10 % 2) = zI 0) = False := by rw [zI_eq (by omega) (by decide)]; exact eq_false ev
    rw [hvb] at hs1 hs2
    rw [hvb] at hbo
    simp (disch := first | assumption | omega) only [cI_rI, cV_rV, cJ_rJ, rZ_0, rZ_1, rZ_z0, rZ_z1, zI_lit, zI_ofNat, zI_add, zI_sub, zI_mul, zI_neg, Int.cast_ofNat_Int, Int.reduceNeg, Int.reduceAdd, Int.reduceSub, Int.reduceMul, ofs_0_0, ofs_0_1, ofs_0_2, ofs_0_3, ofs_0_4, ofs_1_0, ofs_1_1, ofs_1_2, ofs_1_3, ofs_1_4, ofs_1_5, ofs_2_1, ofs_2_2, ofs_2_3, ofs_2_4, ofs_2_6, ofs_2_7, ofs_2_8, ofs_3_0, ofs_3_1, ofs_3_2, ofs_3_3, ofs_4_1, ofs_4_2, ofs_4_3, ofs_4_4, ofs_4_5, ofs_4_6, ofs_4_7, ofs_5_1, ofs_5_2, ofs_5_3, ofs_5_4, ofs_5_6, ofs_6_1, ofs_6_2, ofs_6_3, ofs_6_4, ofs_7_0, ofs_8_0, ofs_8_1, ofs_8_2, ofs_8_8, ofs_9_1, ofs_9_2, ofs_9_4, ofs_9_5, ofs_9_6, ofs_10_0, ofs_10_7, ofs_10_8, ofs_10_9, ofs_10_10, ofs_10_11, ofs_10_12, ofs_10_13, ofs_10_14, ofs_10_15, ofs_11_0, ofs_11_1, ofs_11_2, ofs_11_3, ofs_11_4, ofs_11_6, ofs_11_17, ofs_11_18, ofs_11_19, ofs_11_20, ofs_11_21, ofs_11_22, ofs_11_23, ofs_11_24, ofs_11_25, ofs_11_26, ofs_11_27, ofs_11_28, ofs_11_29, ofs_11_30, ofs_11_31, ofs_11_33, ofs_11_34, ofs_11_35, ofs_11_36, ofs_11_37, ofs_11_43, ofs_11_44, ofs_11_45, ofs_11_47, ofs_11_48, ofs_11_49, ofs_11_50, ofs_11_51, ofs_11_52, ofs_11_54, ofs_11_55, ofs_11_56, ofs_11_57, ofs_11_59, ofs_11_60, ofs_11_61, ofs_11_62, ofs_11_63, ofs_11_64, ofs_11_65, ofs_11_66, ofs_11_67, ofs_11_68, ofs_11_71, ofs_11_74, ofs_11_75, ofs_11_76, ofs_11_77, ofs_11_78, Int.reduceToNat, gfI_of, gfS_of, gdK_of, pfI_of, ldI_of, stI_of, q3, e1, dvI_nn, rmI_nn, f7, ev', if_false, w1', w3', q4, mnI_zI, hs1, r1, hs2, r2]
theorem dieSome_sp {a l r : Nat} {n : Int} {v : Int → Int} {fac : Int → Int32} {σ : Sg} (ha : isV a) (hl : isL l) (h : VH a l r n v fac σ) (hb : VB n v) {d : Nat} {x : Int} (h0 : 0 ≤ x) (h1 : x < 6) : ∃ σ', f_Village_dieSome (d + 8) a l (zI x) σ = rV σ' ∧ VC a (vDie x (lWorth l (a + 4) (ldAt l σ) fac 100 2 100 (rd σ l 0).toNat 0) v) σ' ∧ Fr (SVL a l) σ σ' := by
  have hla : a + 4 = 91 ∨ a + 4 = 96 := by have := ha.le; omega
  have ha' := ha.le; have hl' := hl.le
  obtain ⟨σ1, e1, F1⟩ := worthN hl hla (kind := 100) (no := 2) (most := 100) (by decide) (by decide) h.2.2.1 h.2.2.2 (d := d)
  obtain ⟨H1, -, -, k2, k3⟩ := VH_SL ha hl h F1
  have hwo := lWorth_bd (l := l) (la := a + 4) (D := ldAt l σ) (fac := fac) (kind := 100) (no := 2) (most := 100) (by decide) (rd σ l 0).toNat 0
  generalize lWorth l (a + 4) (ldAt l σ) fac 100 2 100 (rd σ l 0).toNat 0 = wo at e1 hwo
  obtain ⟨q1, q2, q3⟩ := H1.1.1 x h0 (by omega)
  have b1 := hb.1 x h0 (by omega); have b2 := hb.1 (6 + x) (by omega) (by omega); have b3 := hb.1 (12 + x) (by omega) (by omega)
  have pl1 := part_le (m := v x) (w := wo) (by omega) (by omega) hwo.1 (by omega)
  have pl2 := part_le (m := v (6 + x)) (w := wo) (by omega) (by omega) hwo.1 (by omega)
  have pl3 := part_le (m := v (12 + x)) (w := wo) (by omega) (by omega) hwo.1 (by omega)
  have P1 := (H1.1.put (y := v x - v x * wo / 100) h0 (by omega)).1
  have G1 : Fr (SVL a l) σ1 (sI σ1 (a + 1) x.toNat (zI (v x - v x * wo / 100))) := (Fr.rf _ _).sI _ (by simp [SVL, SV])
  generalize hs1 : sI σ1 (a + 1) x.toNat (zI (v x - v x * wo / 100)) = s1 at P1 G1
  have r1 := (P1.1 x h0 (by omega)).2.1
  rw [upI_ne _ _ (by omega)] at r1
  have P2 := (P1.put (x := x) (y := v (6 + x) - v (6 + x) * wo / 100) h0 (by omega)).2.1
  have G2 := G1.sI (zI (v (6 + x) - v (6 + x) * wo / 100)) (show SVL a l (a + 2) x.toNat = true by simp [SVL, SV])
  generalize hs2 : sI s1 (a + 2) x.toNat (zI (v (6 + x) - v (6 + x) * wo / 100)) = s2 at P2 G2
  have r2 := (P2.1 x h0 (by omega)).2.2
  rw [upI_ne _ _ (by omega), upI_ne _ _ (by omega)] at r2
  have P3 := (P2.put (x := x) (y := v (12 + x) - v (12 + x) * wo / 100) h0 (by omega)).2.2
  have G3 := G2.sI (zI (v (12 + x) - v (12 + x) * wo / 100)) (show SVL a l (a + 3) x.toNat = true by simp [SVL, SV])
  generalize hs3 : sI s2 (a + 3) x.toNat (zI (v (12 + x) - v (12 + x) * wo / 100)) = s3 at P3 G3
  have r3 := P3.2.2.2.2.2
  rw [upI_ne _ _ (by omega), upI_ne _ _ (by omega), upI_ne _ _ (by omega)] at r3
  have P4 := (P3.cnt (v 22 + (v x * wo / 100 + v (6 + x) * wo / 100 + 2 * (v (12 + x) * wo / 100)))).2.2.1
  have G4 := G3.sI (zI (v 22 + (v x * wo / 100 + v (6 + x) * wo / 100 + 2 * (v (12 + x) * wo / 100)))) (show SVL a l a 7 = true by simp [SVL, SV])
  refine ⟨_, ?_, P4, (FLv F1).tr G4⟩
  have p0 := ha.s0; have p1 := ha.s1; have p2 := ha.s2; have p3 := ha.s3; have p4 := ha.s4
  have t2 := hl.s0
  rw [f_Village_dieSome_eq]
  simp (disch := first | assumption | omega) only [cI_rI, cV_rV, cJ_rJ, rZ_0, rZ_1, rZ_z0, rZ_z1, zI_lit, zI_ofNat, zI_add, zI_sub, zI_mul, zI_neg, Int.cast_ofNat_Int, Int.reduceNeg, Int.reduceAdd, Int.reduceSub, Int.reduceMul, ofs_0_0, ofs_0_1, ofs_0_2, ofs_0_3, ofs_0_4, ofs_1_0, ofs_1_1, ofs_1_2, ofs_1_3, ofs_1_4, ofs_1_5, ofs_2_1, ofs_2_2, ofs_2_3, ofs_2_4, ofs_2_6, ofs_2_7, ofs_2_8, ofs_3_0, ofs_3_1, ofs_3_2, ofs_3_3, ofs_4_1, ofs_4_2, ofs_4_3, ofs_4_4, ofs_4_5, ofs_4_6, ofs_4_7, ofs_5_1, ofs_5_2, ofs_5_3, ofs_5_4, ofs_5_6, ofs_6_1, ofs_6_2, ofs_6_3, ofs_6_4, ofs_7_0, ofs_8_0, ofs_8_1, ofs_8_2, ofs_8_8, ofs_9_1, ofs_9_2, ofs_9_4, ofs_9_5, ofs_9_6, ofs_10_0, ofs_10_7, ofs_10_8, ofs_10_9, ofs_10_10, ofs_10_11, ofs_10_12, ofs_10_13, ofs_10_14, ofs_10_15, ofs_11_0, ofs_11_1, ofs_11_2, ofs_11_3, ofs_11_4, ofs_11_6, ofs_11_17, ofs_11_18, ofs_11_19, ofs_11_20, ofs_11_21, ofs_11_22, ofs_11_23, ofs_11_24, ofs_11_25, ofs_11_26, ofs_11_27, ofs_11_28, ofs_11_29, ofs_11_30, ofs_11_31, ofs_11_33, ofs_11_34, ofs_11_35, ofs_11_36, ofs_11_37, ofs_11_43, ofs_11_44, ofs_11_45, ofs_11_47, ofs_11_48, ofs_11_49, ofs_11_50, ofs_11_51, ofs_11_52, ofs_11_54, ofs_11_55, ofs_11_56, ofs_11_57, ofs_11_59, ofs_11_60, ofs_11_61, ofs_11_62, ofs_11_63, ofs_11_64, ofs_11_65, ofs_11_66, ofs_11_67, ofs_11_68, ofs_11_71, ofs_11_74, ofs_11_75, ofs_11_76, ofs_11_77, ofs_11_78, Int.reduceToNat, gfI_of, gfS_of, gdK_of, pfI_of, ldI_of, stI_of, e1, dvI_nn, q1, q2, q3, hs1, r1, hs2, r2, hs3, r3]
