theorem mweds_sp {l la : Nat} {n : Int} {D : LD} {W H C v : Int → Int} {σ : Sg} (hl : isL l) (hla : la = 91 ∨ la = 96) (h : MS l n D W H C v σ) {d : Nat} {x : Int} (h0 : 0 ≤ x) (h1 : x < n) : ∃ σ', f_M_weds (d + 4) (zI x) σ = rV σ' ∧ MS l n D W H C (stW l la D W H x v) σ' ∧ Fr SM σ σ' := by
  obtain ⟨σ1, e1, M1, L1, -, F1⟩ := feels_sp hl h (d := d) h0 h1
  have hq : (rd σ1 l 0).toNat = D.1.toNat := by rw [← M1.2.2.2.2]; rfl
  obtain ⟨σ2, e2, F2⟩ := anyM hl hla (kind := 120) (by decide) M1.2.2.2.1 L1 (d := d)
  rw [M1.2.2.2.2, hq] at e2
  have M2 := M1.fr hl (FM120 F2) (M1.1.fr F2 (fun _ => rfl) ⟨rfl, rfl, rfl⟩) M1.2.1
  have L2 : ∀ j : Int, 0 ≤ j → j < 8 → σ2.1 121 j.toNat = vFac W H (vDraw v) x j := fun j j0 j8 => (F2.2 _ _ rfl).trans (L1 j j0 j8)
  unfold stW
  rw [f_M_weds_eq, e1, cV_rV, show (120 : Int32) = zI 120 from zI_lit 120, e2, cI_rI]
  cases hany : lAny l la D (vFac W H (vDraw v) x) 120 D.1.toNat 0 with
  | true =>
    refine ⟨σ2, ?_, ?_, F1.tr (FM120 F2)⟩
    · rw [bz_tt, if_neg (by decide)]
    · unfold vWed; rw [if_pos rfl]; exact M2
  | false =>
    obtain ⟨σ3, e3, F3⟩ := worthM hl hla (kind := 119) (no := 50) (most := 100) (by decide) (by decide) M2.2.2.2.1 L2 (d := d)
    have hq2 : (rd σ2 l 0).toNat = D.1.toNat := by rw [← M2.2.2.2.2]; rfl
    rw [M2.2.2.2.2, hq2] at e3
    have M3 := M2.fr hl (FM120 F3) (M2.1.fr F3 (fun _ => rfl) ⟨rfl, rfl, rfl⟩) M2.2.1
    have hwo := lWorth_bd (l := l) (la := la) (D := D) (fac := vFac W H (vDraw v) x) (kind := 119) (no := 50) (most := 100) (by decide) D.1.toNat 0
    generalize lWorth l la D (vFac W H (vDraw v) x) 119 50 100 D.1.toNat 0 = wo at e3 hwo
    obtain ⟨hn, n0, n6, hr⟩ := id M2.2.2.1
    obtain ⟨w, -, c1, c2, -⟩ := hr x h0 h1
    have w2 : σ2.1 106 x.toNat = zI (W x) := by rw [rd_k, toNat_c h0, w]
    have hb := M3.2.1
    have hB := hb.wed n6 (any := false) h0 h1 c1 c2 hwo
    generalize vDraw v = u at *
    have a1 := M2.1.1 x h0 (by omega); have a2 := M2.1.1 (6 + W x) (by omega) (by omega)
    have b1 := hb.1 x h0 (by omega); have b2 := hb.1 (6 + W x) (by omega) (by omega); have b3 := hb.1 (12 + x) (by omega) (by omega)
    have p1 := M3.1.1 x h0 (by omega); have p3 := M3.1.1 (12 + x) (by omega) (by omega)
    have pl := part_le (m := min (u x) (u (6 + W x))) (w := wo) (by omega) (by omega) hwo.1 (by omega)
    have P1 := M3.1.put (k := x) (y := u x - min (min (u x) (u (6 + W x)) * wo / 100) (9999 - u (12 + x))) h0 (by omega)
    have G1 : Fr SM σ3 (sI σ3 103 x.toNat (zI (u x - min (min (u x) (u (6 + W x)) * wo / 100) (9999 - u (12 + x))))) := (Fr.rf _ _).sI _ rfl
    generalize hs1 : sI σ3 103 x.toNat (zI (u x - min (min (u x) (u (6 + W x)) * wo / 100) (9999 - u (12 + x)))) = s1 at P1 G1
    have w4 : s1.1 106 x.toNat = zI (W x) := by rw [← hs1, sI_row _ _ _ _ _ (by decide), F3.2 106 _ rfl]; exact w2
    have r1 := P1.1 (6 + W x) (by omega) (by omega)
    rw [upI_ne _ _ (by omega)] at r1
    have P2 := P1.put (k := 6 + W x) (y := u (6 + W x) - min (min (u x) (u (6 + W x)) * wo / 100) (9999 - u (12 + x))) (by omega) (by omega)
    have G2 := G1.sI (zI (u (6 + W x) - min (min (u x) (u (6 + W x)) * wo / 100) (9999 - u (12 + x)))) (show SM 103 (6 + W x).toNat = true from rfl)
    generalize hs2 : sI s1 103 (6 + W x).toNat (zI (u (6 + W x) - min (min (u x) (u (6 + W x)) * wo / 100) (9999 - u (12 + x)))) = s2 at P2 G2
    have r2 := P2.1 (12 + x) (by omega) (by omega)
    rw [upI_ne _ _ (by omega), upI_ne _ _ (by omega)] at r2
    have P3 := P2.put (k := 12 + x) (y := u (12 + x) + min (min (u x) (u (6 + W x)) * wo / 100) (9999 - u (12 + x))) (by omega) (by omega)
    have G3 := G2.sI (zI (u (12 + x) + min (min (u x) (u (6 + W x)) * wo / 100) (9999 - u (12 + x)))) (show SM 103 (12 + x).toNat = true from rfl)
    generalize hs3 : sI s2 103 (12 + x).toNat (zI (u (12 + x) + min (min (u x) (u (6 + W x)) * wo / 100) (9999 - u (12 + x)))) = s3 at P3 G3
    have r3 := P3.2.1
    rw [upI_ne _ _ (by omega), upI_ne _ _ (by omega), upI_ne _ _ (by omega)] at r3
    have P4 := (P3.cnt (u 20 + min (min (u x) (u (6 + W x)) * wo / 100) (9999 - u (12 + x)))).1
    have G4 := G3.sI (zI (u 20 + min (min (u x) (u (6 + W x)) * wo / 100) (9999 - u (12 + x)))) (show SM 102 79 = true from rfl)
    refine ⟨_, ?_, M3.fr hl G4 ?_ hB, ((F1.tr (FM120 F2)).tr (FM120 F3)).tr G4⟩
    · simp (disch := first | assumption | omega) only [cI_rI, cV_rV, cJ_rJ, rZ_0, rZ_1, rZ_z0, rZ_z1, zI_lit, zI_ofNat, zI_add, zI_sub, zI_mul, zI_neg, Int.cast_ofNat_Int, Int.reduceNeg, Int.reduceAdd, Int.reduceSub, Int.reduceMul, bz_ff, bnd_zI, ix_zI, Int.zero_add, a1, w2, a2, minM_sp, e3, dvI_nn, p3, p1, hs1, w4, r1, hs2, r2, hs3, r3, if_true]
    · unfold vWed
      rw [if_neg (by decide)]
      exact P4
theorem mbears_sp {l la : Nat} {n : Int} {D : LD} {W H C v : Int → Int} {σ : Sg} (hl : isL l) (hla : la = 91 ∨ la = 96) (h : MS l n D W H C v σ) {d : Nat} {x : Int} (h0 : 0 ≤ x) (h1 : x < n) : ∃ σ', f_M_bears (d + 4) (zI x) σ = rV σ' ∧ MS l n D W H C (stY l la D W H C x v) σ' ∧ Fr SM σ σ' := by
  obtain ⟨σ1, e1, M1, L1, D1, F1⟩ := feels_sp hl h (d := d) h0 h1
  have hq : (rd σ1 l 0).toNat = D.1.toNat := by rw [← M1.2.2.2.2]; rfl
  obtain ⟨σ2, e2, F2⟩ := worthM hl hla (kind := 98) (no := 40) (most := 300) (by decide) (by decide) M1.2.2.2.1 L1 (d := d)
  rw [M1.2.2.2.2, hq] at e2
  have M2 := M1.fr hl (FM120 F2) (M1.1.fr F2 (fun _ => rfl) ⟨rfl, rfl, rfl⟩) M1.2.1
  have hwo := lWorth_bd (l := l) (la := la) (D := D) (fac := vFac W H (vDraw v) x) (kind := 98) (no := 40) (most := 300) (by decide) D.1.toNat 0
  unfold stY
  generalize lWorth l la D (vFac W H (vDraw v) x) 98 40 300 D.1.toNat 0 = wo at e2 hwo
  obtain ⟨hn, n0, n6, hr⟩ := id M2.2.2.1
  obtain ⟨w, -, c1, c2, -⟩ := hr x h0 h1
  obtain ⟨-, cc, -, -, -, -, -, -, c3, c4⟩ := hr (W x) c1 c2
  have w2 : σ2.1 106 x.toNat = zI (W x) := by rw [rd_k, toNat_c h0, w]
  have w3 : σ2.1 107 (W x).toNat = zI (C (W x)) := by rw [rd_k, toNat_c c1, cc]
  have D2 : σ2.1 102 82 = zI (vDraw v 19 % 10) := (F2.2 _ _ rfl).trans D1
  have hb := M2.2.1
  have hB := hb.bear n6 (W := W) (C := C) h0 h1 c3 c4 hwo
  generalize vDraw v = u at *
  have a1 := M1.1.1 (12 + x) (by omega) (by omega)
  have b1 := hb.1 (C (W x)) c3 (by omega); have b2 := hb.1 (6 + C (W x)) (by omega) (by omega); have b3 := hb.1 (12 + x) (by omega) (by omega)
  have b4 := hb.2.2.2.2
  have p1 := M2.1.1 (C (W x)) c3 (by omega)
  have pl := part_le (m := u (12 + x)) (w := wo) (by omega) (by omega) hwo.1 hwo.2
  have hbo : 0 ≤ vBoys u (u (12 + x) * wo / 100) ∧ vBoys u (u (12 + x) * wo / 100) ≤ u (12 + x) * wo / 100 := by unfold vBoys; split <;> omega
  have P1 := M2.1.put (k := C (W x)) (y := min 9999 (u (C (W x)) + vBoys u (u (12 + x) * wo / 100))) c3 (by omega)
  have G1 : Fr SM σ2 (sI σ2 103 (C (W x)).toNat (zI (min 9999 (u (C (W x)) + vBoys u (u (12 + x) * wo / 100))))) := (Fr.rf _ _).sI _ rfl
  generalize hs1 : sI σ2 103 (C (W x)).toNat (zI (min 9999 (u (C (W x)) + vBoys u (u (12 + x) * wo / 100)))) = s1 at P1 G1
  have r1 := P1.1 (6 + C (W x)) (by omega) (by omega)
  rw [upI_ne _ _ (by omega)] at r1
  have P2 := P1.put (k := 6 + C (W x)) (y := min 9999 (u (6 + C (W x)) + u (12 + x) * wo / 100 - vBoys u (u (12 + x) * wo / 100))) (by omega) (by omega)
  have G2 := G1.sI (zI (min 9999 (u (6 + C (W x)) + u (12 + x) * wo / 100 - vBoys u (u (12 + x) * wo / 100)))) (show SM 103 (6 + C (W x)).toNat = true from rfl)
  generalize hs2 : sI s1 103 (6 + C (W x)).toNat (zI (min 9999 (u (6 + C (W x)) + u (12 + x) * wo / 100 - vBoys u (u (12 + x) * wo / 100)))) = s2 at P2 G2
  have r2 := P2.2.2.1
  rw [upI_ne _ _ (by omega), upI_ne _ _ (by omega)] at r2
  have P3 := (P2.cnt (u 21 + u (12 + x) * wo / 100)).2.1
  have G3 := G2.sI (zI (u 21 + u (12 + x) * wo / 100)) (show SM 102 80 = true from rfl)
  refine ⟨_, ?_, M2.fr hl G3 P3 hB, (F1.tr (FM120 F2)).tr G3⟩
  rw [f_M_bears_eq, e1, cV_rV]
  by_cases od : u (12 + x) * wo / 100 % 2 = 1
  · by_cases ev : u 19 % 10 % 2 = 0
    · have hvb : vBoys u (u (12 + x) * wo / 100) = u (12 + x) * wo / 100 / 2 + 1 := by unfold vBoys; rw [if_pos ev]; omega
      rw [hvb] at hs1 hs2 hbo
      simp (disch := first | assumption | omega) only [cI_rI, cV_rV, cJ_rJ, rZ_0, rZ_1, rZ_z0, rZ_z1, zI_lit, zI_ofNat, zI_add, zI_sub, zI_mul, zI_neg, Int.cast_ofNat_Int, Int.reduceNeg, Int.reduceAdd, Int.reduceSub, Int.reduceMul, bnd_zI, ix_zI, Int.zero_add, a1, e2, dvI_nn, rmI_nn, od, ev, D2, w2, w3, p1, minM_sp, hs1, r1, hs2, r2, if_true]
    · have hvb : vBoys u (u (12 + x) * wo / 100) = u (12 + x) * wo / 100 / 2 + 0 := by unfold vBoys; rw [if_neg ev]; omega
      have ev' : (zI (u 19 % 10 % 2) = zI 0) = False := by rw [zI_eq (by omega) (by decide)]; exact eq_false ev
      rw [hvb] at hs1 hs2 hbo
      simp (disch := first | assumption | omega) only [cI_rI, cV_rV, cJ_rJ, rZ_0, rZ_1, rZ_z0, rZ_z1, zI_lit, zI_ofNat, zI_add, zI_sub, zI_mul, zI_neg, Int.cast_ofNat_Int, Int.reduceNeg, Int.reduceAdd, Int.reduceSub, Int.reduceMul, bnd_zI, ix_zI, Int.zero_add, a1, e2, dvI_nn, rmI_nn, od, ev', D2, w2, w3, p1, minM_sp, hs1, r1, hs2, r2, if_true, if_false]
  · have hvb : vBoys u (u (12 + x) * wo / 100) = u (12 + x) * wo / 100 / 2 + 0 := by unfold vBoys; split <;> omega
    have od' : (zI (u (12 + x) * wo / 100 % 2) = zI 1) = False := by rw [zI_eq (by omega) (by decide)]; exact eq_false od
    rw [hvb] at hs1 hs2 hbo
    simp (disch := first | assumption | omega) only [cI_rI, cV_rV, cJ_rJ, rZ_0, rZ_1, rZ_z0, rZ_z1, zI_lit, zI_ofNat, zI_add, zI_sub, zI_mul, zI_neg, Int.cast_ofNat_Int, Int.reduceNeg, Int.reduceAdd, Int.reduceSub, Int.reduceMul, bnd_zI, ix_zI, Int.zero_add, a1, e2, dvI_nn, rmI_nn, od', D2, w2, w3, p1, minM_sp, hs1, r1, hs2, r2, if_false]
theorem mdies_sp {l la : Nat} {n : Int} {D : LD} {W H C v : Int → Int} {σ : Sg} (hl : isL l) (hla : la = 91 ∨ la = 96) (h : MS l n D W H C v σ) {d : Nat} {x : Int} (h0 : 0 ≤ x) (h1 : x < n) : ∃ σ', f_M_dies (d + 4) (zI x) σ = rV σ' ∧ MS l n D W H C (stD l la D W H x v) σ' ∧ Fr SM σ σ' := by
  obtain ⟨σ1, e1, M1, L1, D1, F1⟩ := feels_sp hl h (d := d) h0 h1
  have hq : (rd σ1 l 0).toNat = D.1.toNat := by rw [← M1.2.2.2.2]; rfl
  obtain ⟨σ2, e2, F2⟩ := worthM hl hla (kind := 100) (no := 2) (most := 100) (by decide) (by decide) M1.2.2.2.1 L1 (d := d)
  rw [M1.2.2.2.2, hq] at e2
  have M2 := M1.fr hl (FM120 F2) (M1.1.fr F2 (fun _ => rfl) ⟨rfl, rfl, rfl⟩) M1.2.1
  have hwo := lWorth_bd (l := l) (la := la) (D := D) (fac := vFac W H (vDraw v) x) (kind := 100) (no := 2) (most := 100) (by decide) D.1.toNat 0
  unfold stD
  generalize lWorth l la D (vFac W H (vDraw v) x) 100 2 100 D.1.toNat 0 = wo at e2 hwo
  obtain ⟨hn, n0, n6, hr⟩ := id M2.2.2.1
  have hb := M2.2.1
  have hB := hb.die n6 h0 h1 hwo
  generalize vDraw v = u at *
  have b1 := hb.1 x h0 (by omega); have b2 := hb.1 (6 + x) (by omega) (by omega); have b3 := hb.1 (12 + x) (by omega) (by omega)
  have p1 := M2.1.1 x h0 (by omega); have p2 := M2.1.1 (6 + x) (by omega) (by omega); have p3 := M2.1.1 (12 + x) (by omega) (by omega)
  have pl1 := part_le (m := u x) (w := wo) (by omega) (by omega) hwo.1 (by omega)
  have pl2 := part_le (m := u (6 + x)) (w := wo) (by omega) (by omega) hwo.1 (by omega)
  have pl3 := part_le (m := u (12 + x)) (w := wo) (by omega) (by omega) hwo.1 (by omega)
  have P1 := M2.1.put (k := x) (y := u x - u x * wo / 100) h0 (by omega)
  have G1 : Fr SM σ2 (sI σ2 103 x.toNat (zI (u x - u x * wo / 100))) := (Fr.rf _ _).sI _ rfl
  generalize hs1 : sI σ2 103 x.toNat (zI (u x - u x * wo / 100)) = s1 at P1 G1
  have r1 := P1.1 (6 + x) (by omega) (by omega)
  rw [upI_ne _ _ (by omega)] at r1
  have P2 := P1.put (k := 6 + x) (y := u (6 + x) - u (6 + x) * wo / 100) (by omega) (by omega)
  have G2 := G1.sI (zI (u (6 + x) - u (6 + x) * wo / 100)) (show SM 103 (6 + x).toNat = true from rfl)
  generalize hs2 : sI s1 103 (6 + x).toNat (zI (u (6 + x) - u (6 + x) * wo / 100)) = s2 at P2 G2
  have r2 := P2.1 (12 + x) (by omega) (by omega)
  rw [upI_ne _ _ (by omega), upI_ne _ _ (by omega)] at r2
  have P3 := P2.put (k := 12 + x) (y := u (12 + x) - u (12 + x) * wo / 100) (by omega) (by omega)
  have G3 := G2.sI (zI (u (12 + x) - u (12 + x) * wo / 100)) (show SM 103 (12 + x).toNat = true from rfl)
  generalize hs3 : sI s2 103 (12 + x).toNat (zI (u (12 + x) - u (12 + x) * wo / 100)) = s3 at P3 G3
  have r3 := P3.2.2.2
  rw [upI_ne _ _ (by omega), upI_ne _ _ (by omega), upI_ne _ _ (by omega)] at r3
  have P4 := (P3.cnt (u 22 + (u x * wo / 100 + u (6 + x) * wo / 100 + 2 * (u (12 + x) * wo / 100)))).2.2
  have G4 := G3.sI (zI (u 22 + (u x * wo / 100 + u (6 + x) * wo / 100 + 2 * (u (12 + x) * wo / 100)))) (show SM 102 81 = true from rfl)
  refine ⟨_, ?_, M2.fr hl G4 P4 hB, (F1.tr (FM120 F2)).tr G4⟩
  rw [f_M_dies_eq, e1, cV_rV]
  simp (disch := first | assumption | omega) only [cI_rI, cV_rV, cJ_rJ, rZ_0, rZ_1, rZ_z0, rZ_z1, zI_lit, zI_ofNat, zI_add, zI_sub, zI_mul, zI_neg, Int.cast_ofNat_Int, Int.reduceNeg, Int.reduceAdd, Int.reduceSub, Int.reduceMul, bnd_zI, ix_zI, Int.zero_add, e2, dvI_nn, p1, p2, p3, hs1, r1, hs2, r2, hs3, r3]
  exact congrArg (fun z => rV (sI s3 102 81 (zI z))) (by omega)
theorem myear2 {l la : Nat} {n : Int} {D : LD} {W H C : Int → Int} (hl : isL l) (hla : la = 91 ∨ la = 96) {d : Nat} : ∀ (k : Nat) (i : Int) (v : Int → Int) (σ : Sg), MS l n D W H C v σ → 0 ≤ i → i + k = n → ∃ σ', f_M_yearGoes_2 (d + 4) (zI i) σ = f_M_yearGoes_23 (d + 4) (zI 0) σ' ∧ MS l n D W H C (itv (stW l la D W H) k i v) σ' ∧ Fr SM σ σ'
  | 0, i, v, σ, h, h0, hi => by
    have e0 : σ.1 102 5 = zI i := by rw [rd_k]; exact congrArg zI (by have := h.2.2.1.1; show rd σ 102 5 = i; omega)
    exact ⟨σ, by rw [f_M_yearGoes_2_eq, e0, if_neg Int32.lt_irrefl, zI_0], h, Fr.rf _ _⟩
  | k + 1, i, v, σ, h, h0, hi => by
    have n6 : n ≤ 6 := h.2.2.1.2.2.1
    have e0 : σ.1 102 5 = zI n := by rw [rd_k]; exact congrArg zI h.2.2.1.1
    obtain ⟨σ2, e2, h2, F2⟩ := mweds_sp hl hla h (d := d) h0 (by omega)
    obtain ⟨σ3, e3, h3, F3⟩ := myear2 hl hla (d := d) k (i + 1) _ σ2 h2 (by omega) (by omega)
    refine ⟨σ3, ?_, h3, F2.tr F3⟩
    rw [f_M_yearGoes_2_eq, e0, if_pos (by rw [zI_le (by omega) (by omega)]; omega), e2, cV_rV, zI_lit, zI_add]
    exact e3
theorem myear23 {l la : Nat} {n : Int} {D : LD} {W H C : Int → Int} (hl : isL l) (hla : la = 91 ∨ la = 96) {d : Nat} : ∀ (k : Nat) (i : Int) (v : Int → Int) (σ : Sg), MS l n D W H C v σ → 0 ≤ i → i + k = n → ∃ σ', f_M_yearGoes_23 (d + 4) (zI i) σ = f_M_yearGoes_44 (d + 4) (zI 0) σ' ∧ MS l n D W H C (itv (stY l la D W H C) k i v) σ' ∧ Fr SM σ σ'
  | 0, i, v, σ, h, h0, hi => by
    have e0 : σ.1 102 5 = zI i := by rw [rd_k]; exact congrArg zI (by have := h.2.2.1.1; show rd σ 102 5 = i; omega)
    exact ⟨σ, by rw [f_M_yearGoes_23_eq, e0, if_neg Int32.lt_irrefl, zI_0], h, Fr.rf _ _⟩
  | k + 1, i, v, σ, h, h0, hi => by
    have n6 : n ≤ 6 := h.2.2.1.2.2.1
    have e0 : σ.1 102 5 = zI n := by rw [rd_k]; exact congrArg zI h.2.2.1.1
    obtain ⟨σ2, e2, h2, F2⟩ := mbears_sp hl hla h (d := d) h0 (by omega)
    obtain ⟨σ3, e3, h3, F3⟩ := myear23 hl hla (d := d) k (i + 1) _ σ2 h2 (by omega) (by omega)
    refine ⟨σ3, ?_, h3, F2.tr F3⟩
    rw [f_M_yearGoes_23_eq, e0, if_pos (by rw [zI_le (by omega) (by omega)]; omega), e2, cV_rV, zI_lit, zI_add]
    exact e3
theorem VB.year {n : Int} {v : Int → Int} (b : VB n v) (h : v 18 < 9999) : VB n (upI v 18 (v 18 + 1)) := by
  obtain ⟨b1, b2, b3, b4, b5, b6⟩ := b
  refine ⟨fun k k0 k1 => ?_, fun z z0 z1 z2 => ?_, ?_⟩
  · rw [upI_ne _ _ (by omega)]; exact b1 k k0 k1
  · rw [upI_ne (j := z) _ _ (by omega), upI_ne (j := 6 + z) _ _ (by omega), upI_ne (j := 12 + z) _ _ (by omega)]; exact b2 z z0 z1 z2
  · rw [upI_same, upI_ne (j := 19) _ _ (by omega)]; omega
theorem myear44 {l la : Nat} {n : Int} {D : LD} {W H C : Int → Int} (hl : isL l) (hla : la = 91 ∨ la = 96) {d : Nat} : ∀ (k : Nat) (i : Int) (v : Int → Int) (σ : Sg), MS l n D W H C v σ → 0 ≤ i → i + k = n → (itv (stD l la D W H) k i v) 18 < 9999 → ∃ σ', f_M_yearGoes_44 (d + 4) (zI i) σ = rV σ' ∧ MS l n D W H C (upI (itv (stD l la D W H) k i v) 18 (itv (stD l la D W H) k i v 18 + 1)) σ' ∧ Fr SM σ σ'
  | 0, i, v, σ, h, h0, hi, h18 => by
    have e0 : σ.1 102 5 = zI i := by rw [rd_k]; exact congrArg zI (by have := h.2.2.1.1; show rd σ 102 5 = i; omega)
    have P := h.1.put (k := 18) (y := v 18 + 1) (by decide) (by decide)
    have e18 : σ.1 103 18 = zI (v 18) := h.1.1 18 (by decide) (by decide)
    have G : Fr SM σ (sI σ 103 18 (zI (v 18 + 1))) := (Fr.rf _ _).sI _ rfl
    refine ⟨_, ?_, h.fr hl G P (h.2.1.year h18), G⟩
    rw [f_M_yearGoes_44_eq, e0, if_neg Int32.lt_irrefl]
    simp (disch := first | assumption | omega) only [cI_rI, cV_rV, cJ_rJ, rZ_0, rZ_1, rZ_z0, rZ_z1, zI_lit, zI_ofNat, zI_add, zI_sub, zI_mul, zI_neg, Int.cast_ofNat_Int, Int.reduceNeg, Int.reduceAdd, Int.reduceSub, Int.reduceMul, bnd_zI, ix_zI, Int.reduceToNat, e18]
  | k + 1, i, v, σ, h, h0, hi, h18 => by
    have n6 : n ≤ 6 := h.2.2.1.2.2.1
    have e0 : σ.1 102 5 = zI n := by rw [rd_k]; exact congrArg zI h.2.2.1.1
    obtain ⟨σ2, e2, h2, F2⟩ := mdies_sp hl hla h (d := d) h0 (by omega)
    obtain ⟨σ3, e3, h3, F3⟩ := myear44 hl hla (d := d) k (i + 1) _ σ2 h2 (by omega) (by omega) h18
    refine ⟨σ3, ?_, h3, F2.tr F3⟩
    rw [f_M_yearGoes_44_eq, e0, if_pos (by rw [zI_le (by omega) (by omega)]; omega), e2, cV_rV, zI_lit, zI_add]
    exact e3
theorem myear {l la : Nat} {n : Int} {D : LD} {W H C v : Int → Int} {σ : Sg} (hl : isL l) (hla : la = 91 ∨ la = 96) (h : MS l n D W H C v σ) (h18 : v 18 < 9999) {d : Nat} : ∃ σ', f_M_yearGoes (d + 5) σ = rV σ' ∧ MS l n D W H C (vYear l la D W H C n.toNat v) σ' ∧ Fr SM σ σ' := by
  obtain ⟨-, n0, n6, hr⟩ := id h.2.2.1
  obtain ⟨σ1, e1, h1, F1⟩ := myear2 hl hla (d := d) n.toNat 0 v σ h (by decide) (by omega)
  obtain ⟨σ2, e2, h2, F2⟩ := myear23 hl hla (d := d) n.toNat 0 _ σ1 h1 (by decide) (by omega)
  have hbd : ∀ x, 0 ≤ x → x < n → (0 ≤ W x ∧ W x < n) ∧ 0 ≤ C (W x) ∧ C (W x) < n := fun x x0 x1 => by
    obtain ⟨-, -, c1, c2, -⟩ := hr x x0 x1
    obtain ⟨-, -, -, -, -, -, -, -, c3, c4⟩ := hr (W x) c1 c2
    exact ⟨⟨c1, c2⟩, c3, c4⟩
  have y1 : itv (stW l la D W H) n.toNat 0 v 18 = v 18 := itv18 (n := n) (stW18 n6 fun x a b => (hbd x a b).1) _ _ _ (by decide) (by omega)
  have y2 : itv (stY l la D W H C) n.toNat 0 (itv (stW l la D W H) n.toNat 0 v) 18 = v 18 := (itv18 (n := n) (stB18 n6 fun x a b => (hbd x a b).2) _ _ _ (by decide) (by omega)).trans y1
  have y3 : itv (stD l la D W H) n.toNat 0 (itv (stY l la D W H C) n.toNat 0 (itv (stW l la D W H) n.toNat 0 v)) 18 = v 18 := (itv18 (n := n) (stD18 n6) _ _ _ (by decide) (by omega)).trans y2
  obtain ⟨σ3, e3, h3, F3⟩ := myear44 hl hla (d := d) n.toNat 0 _ σ2 h2 (by decide) (by omega) (by omega)
  exact ⟨σ3, by rw [f_M_yearGoes_eq, zI_0, e1, e2, e3], h3, (F1.tr F2).tr F3⟩
theorem myears {l la : Nat} {n : Int} {D : LD} {W H C : Int → Int} (hl : isL l) (hla : la = 91 ∨ la = 96) {d : Nat} {m : Int} (hm : m ≤ 100) : ∀ (k : Nat) (i : Int) (v : Int → Int) (σ : Sg), MS l n D W H C v σ → 0 ≤ i → i + k = m → ∃ σ', f_M_yearsGo_17 (d + 5) (zI m) (zI i) σ = rV σ' ∧ MS l n D W H C (vGo l la D W H C n.toNat k v) σ' ∧ Fr SM σ σ'
  | 0, i, v, σ, h, h0, hi => by
    have : i = m := by omega
    subst this
    exact ⟨σ, by rw [f_M_yearsGo_17_eq, if_neg Int32.lt_irrefl], h, Fr.rf _ _⟩
  | k + 1, i, v, σ, h, h0, hi => by
    have b18 := h.2.1.2.2
    have e18 : σ.1 103 18 = zI (v 18) := h.1.1 18 (by decide) (by decide)
    have hd : f_M_yearsGo_17 (d + 5) (zI m) (zI i) σ = if zI (v 18) < 9999 then (cV (f_M_yearGoes (d + 5) σ) fun σ1 => f_M_yearsGo_17 (d + 5) (zI m) (zI (i + 1)) σ1) else rV σ := by
      rw [f_M_yearsGo_17_eq, if_pos (by rw [zI_le (by omega) (by omega)]; omega)]
      have e1 : zI i + 1 = zI (i + 1) := by rw [zI_lit, zI_add]
      have e2 : ix 18 = 18 := rfl
      have e3 : ∀ X : Rs, bnd 18 20 X = X := fun X => rfl
      rw [e1, e2, e3, e18]
    unfold vGo
    by_cases q : v 18 < 9999
    · rw [if_pos q]
      obtain ⟨σ3, e3, h3, F3⟩ := myear hl hla h q (d := d)
      obtain ⟨σ4, e4, h4, F4⟩ := myears hl hla (d := d) hm k (i + 1) _ σ3 h3 (by omega) (by omega)
      refine ⟨σ4, ?_, h4, F3.tr F4⟩
      rw [hd, if_pos (by rw [zI_lit, zI_le (by omega) (by decide)]; exact q), e3, cV_rV]
      exact e4
    · rw [if_neg q]
      refine ⟨σ, ?_, h, Fr.rf _ _⟩
      rw [hd, if_neg (by rw [zI_lit, zI_le (by omega) (by decide)]; exact q)]
