theorem c_keep {σ : Sg} {r p l : Nat} (h : Inv r p l σ) : Same (f_N_keep 100) (f_M_keep 100) σ := by
  obtain ⟨n1, n2, n3, n4⟩ := h.n
  have hb := h.bits
  have hv := h.2.2.2.2.2.2.1
  have V := vOf_VC σ 87
  obtain ⟨σ1, e1, z, z3, z4, F1⟩ := copy_sp (a := 97) (b := 87) (by unfold isU; omega) (by unfold isU; omega) (by decide) (k := 6) (by decide) (by decide) (σ := σ) (d := 96)
  have n1' : σ1.2.2 4 1 = r := by rw [F1.1]; exact n1
  have g1 : σ1.1 r 0 = zI (rd σ r 0) := by rw [F1.2 _ _ (by simp [SU]; omega)]; exact rd_k _ _ _
  have FA : Fr (fun a k => SU 97 a k || (a == 4 && (k == 16 || k == 17))) σ (sI (sI σ1 4 16 (zI (rd σ r 0))) 4 17 (zI 1)) := ((F1.mono (by intro a k; simp; intro q _; exact q)).sI _ rfl).sI _ rfl
  generalize hσ2 : sI (sI σ1 4 16 (zI (rd σ r 0))) 4 17 (zI 1) = σ2 at FA
  have y2 : σ2.1 87 3 = zI (vOf σ 87 18) := by rw [FA.2 _ _ rfl]; exact V.2.1
  have e00 : f_Village_copy 99 97 87 6 σ = rV σ1 := e1
  have eN : f_N_keep 100 σ = rI (zI (vOf σ 87 18)) σ2 := by
    rw [f_N_keep_eq, e00, cV_rV, n1', gfI_of n2, g1]
    show (if (1 : Int32) = 0 ∨ (1 : Int32) = 1 then rI ((sI (sI σ1 4 16 (zI (rd σ r 0))) 4 17 1).1 87 3) (sI (sI σ1 4 16 (zI (rd σ r 0))) 4 17 1) else none) = _
    rw [if_pos (Or.inr rfl), show (1 : Int32) = zI 1 from zI_lit 1, hσ2, y2]
  have g2 : σ2.1 102 5 = zI (rd σ r 0) := by rw [FA.2 _ _ rfl]; exact (rd_k σ 102 5).trans (congrArg zI n4)
  have FB : Fr (fun a k => SU 97 a k || (a == 4 && (k == 16 || k == 17)) || (a == 102 && (k == 83 || k == 84))) σ (sI (sI σ2 102 83 (zI 1)) 102 84 (zI (rd σ r 0))) := ((FA.mono (by intro a k; simp; intro q r _; exact ⟨q, r⟩)).sI _ rfl).sI _ rfl
  generalize hσ3 : sI (sI σ2 102 83 (zI 1)) 102 84 (zI (rd σ r 0)) = σ3 at FB
  obtain ⟨σ4, c4, y4, F4⟩ := copies_sp (a := 103) (b := 105) rfl rfl (by decide) (σ := σ3) (d := 98)
  have F : Fr (fun a k => SU 97 a k || (a == 4 && (k == 16 || k == 17)) || (a == 102 && (k == 83 || k == 84)) || a == 105) σ σ4 := FrU FB F4 fun a k e => by simp at e ⊢; exact e
  have m4 : ∀ k : Int, 0 ≤ k → k < 20 → σ4.1 103 k.toNat = zI (vOf σ 87 k) := fun k k0 k1 => (F.2 _ _ rfl).trans (hv.2.vm k k0 k1)
  have e40 : f_M_copies 99 103 105 σ3 = rV σ4 := c4
  have eM : f_M_keep 100 σ2 = rI (zI (vOf σ 87 18)) σ4 := by
    rw [f_M_keep_eq]
    show (if (1 : Int32) = 0 ∨ (1 : Int32) = 1 then cV (f_M_copies 99 103 105 (sI (sI σ2 102 83 1) 102 84 ((sI σ2 102 83 1).1 102 5))) (fun σ3 => bnd 18 20 (rI (σ3.1 103 (ix 18)) σ3)) else none) = _
    rw [if_pos (Or.inr rfl), sI_slot _ _ _ _ (by decide), g2, show (1 : Int32) = zI 1 from zI_lit 1, hσ3, e40, cV_rV]
    have := m4 18 (by decide) (by decide)
    show rI (σ4.1 103 18) σ4 = _
    rw [show σ4.1 103 18 = zI (vOf σ 87 18) from this]
  refine ⟨_, σ2, σ4, r, p, l, eN, eM, ?_⟩
  obtain ⟨i1, i2, i3, i4, i5, i6, i7, i8⟩ := h
  have hD : ∀ a k, (DTape a k || DRule r a k || DRoll r p a k || DLaw l a k || DHou r p a k) = true → (fun a k => SU 97 a k || (a == 4 && (k == 16 || k == 17)) || (a == 102 && (k == 83 || k == 84)) || a == 105) a k = false := by
    intro a k q
    simp only [Bool.or_eq_true] at q
    rcases q with (((q | q) | q) | q) | q
    · simp [DTape] at q; simp [SU]; omega
    · simp [DRule] at q; simp [SU]; omega
    · simp [DRoll] at q; simp [SU]; omega
    · simp [DLaw] at q; simp [SU]; omega
    · simp [DHou] at q; simp [SU]; omega
  refine ⟨i1.fr F, i2.fr F fun a k q => hD a k (by simp [q]), i3.fr F fun a k q => hD a k (by simp [q]), i4.fr F fun a k q => hD a k (by simp [q]), i5.fr F fun a k q => hD a k (by simp [q]), i6.fr F fun a k q => hD a k (by simp [q]), i7.fr F (fr_rd F (hD _ _ (by simp [DRule]))) (fun a k q => by simp [DV] at q; simp [SU]; omega), ?_⟩
  have F34 : ∀ a k, a ≠ 105 → σ4.1 a k = σ3.1 a k := fun a k q => F4.2 _ _ (by simp [q])
  have x16 : σ4.1 4 16 = zI (rd σ r 0) := by rw [F34 _ _ (by decide), ← hσ3, sI_row _ _ _ _ _ (by decide), sI_row _ _ _ _ _ (by decide), ← hσ2, sI_slot _ _ _ _ (by decide), sI_same]
  have x17 : σ4.1 4 17 = zI 1 := by rw [F34 _ _ (by decide), ← hσ3, sI_row _ _ _ _ _ (by decide), sI_row _ _ _ _ _ (by decide), ← hσ2, sI_same]
  have x83 : σ4.1 102 83 = zI 1 := by rw [F34 _ _ (by decide), ← hσ3, sI_slot _ _ _ _ (by decide), sI_same]
  have x84 : σ4.1 102 84 = zI (rd σ r 0) := by rw [F34 _ _ (by decide), ← hσ3, sI_same]
  have rr : ∀ {a k : Nat} {v : Int}, σ4.1 a k = zI v → -2147483648 ≤ v → v < 2147483648 → rd σ4 a (k : Int) = v := fun {a k v} e q1 q2 => by
    show (σ4.1 a (k : Int).toNat).toInt = v
    rw [show ((k : Nat) : Int).toNat = k by omega, e, zI_toInt q1 q2]
  have r16 := rr x16 (by omega) (by omega); have r17 := rr x17 (by decide) (by decide); have r83 := rr x83 (by decide) (by decide); have r84 := rr x84 (by omega) (by omega)
  refine ⟨Or.inr r17, r83.trans r17.symm, fun _ => ⟨r84.trans r16.symm, by rw [show rd σ4 4 16 = rd σ r 0 from r16]; exact n3.1, by rw [show rd σ4 4 16 = rd σ r 0 from r16]; exact n3.2, ?_⟩⟩
  have to1 : ∀ a k, a = 97 ∨ a = 98 ∨ a = 99 ∨ a = 100 → σ4.1 a k = σ1.1 a k := fun a k q => by
    rw [F34 _ _ (by omega), ← hσ3, sI_row _ _ _ _ _ (by omega), sI_row _ _ _ _ _ (by omega), ← hσ2, sI_row _ _ _ _ _ (by omega), sI_row _ _ _ _ _ (by omega)]
  have vb6 : VB 6 (vOf σ 87) := by
    obtain ⟨b1, b2, b3⟩ := hv.1.vb
    exact ⟨b1, fun x q1 q2 q3 => by omega, b3⟩
  refine V_mk (v := vOf σ 87) (fun x x0 x6 => ?_) ?_ ?_ vb6 fun k k0 k1 => ?_
  · obtain ⟨p1, p2, p3⟩ := z x.toNat (by omega)
    obtain ⟨v1, v2, v3⟩ := V.1 x x0 x6
    rw [to1 98 _ (by decide), to1 99 _ (by decide), to1 100 _ (by decide)]
    have := toNat_c x0
    rw [show σ1.1 98 x.toNat = _ from p1, show σ1.1 99 x.toNat = _ from p2, show σ1.1 100 x.toNat = _ from p3, if_pos (by omega), if_pos (by omega), if_pos (by omega)]
    exact ⟨v1, v2, v3⟩
  · rw [to1 97 _ (by decide), z3]; exact V.2.1
  · rw [to1 97 _ (by decide), z4]; exact V.2.2.1
  · rw [y4 k.toNat (by omega), FB.2 103 _ rfl]; exact hv.2.vm k k0 k1
theorem c_undo {σ : Sg} {r p l : Nat} (h : Inv r p l σ) : Same (f_N_undo 100) (f_M_undo 100) σ := by
  obtain ⟨n1, n2, n3, n4⟩ := h.n
  have hb := h.bits
  obtain ⟨k1, k2, k3⟩ := h.2.2.2.2.2.2.2
  have e17 : σ.1 4 17 = zI (rd σ 4 17) := rd_k _ _ _
  have e83 : σ.1 102 83 = zI (rd σ 4 17) := (rd_k σ 102 83).trans (congrArg zI k2)
  rcases k1 with q | q
  · refine ⟨zI 0, σ, σ, r, p, l, ?_, ?_, h⟩
    · rw [f_N_undo_eq, e17, q, if_pos (by decide), rZ_0]
    · rw [f_M_undo_eq, e83, q, if_pos (by decide), rZ_0]
  · obtain ⟨q1, q2, q3, q4, q5⟩ := k3 q
    have V := vOf_VC σ 97
    have e16 : σ.1 4 16 = zI (rd σ 4 16) := rd_k _ _ _
    have er : σ.1 r 0 = zI (rd σ r 0) := rd_k _ _ _
    obtain ⟨σ1, e1, z, z3, z4, F1⟩ := copy_sp (a := 87) (b := 97) (by unfold isU; omega) (by unfold isU; omega) (by decide) (k := min (rd σ 4 16) (rd σ r 0)) (by omega) (by omega) (σ := σ) (d := 96)
    have e10 : f_Village_copy 99 87 97 (zI (min (rd σ 4 16) (rd σ r 0))) σ = rV σ1 := e1
    have eN : f_N_undo 100 σ = rI (zI 1) σ1 := by
      rw [f_N_undo_eq, e17, q, if_neg (by decide), n1, gfI_of n2, er, e16, mnI_zI (by omega) (by omega) (by omega) (by omega), e10, cV_rV, rZ_1]
    generalize hm : min (rd σ 4 16) (rd σ r 0) = m at z
    have g83 : σ1.1 102 83 = zI 1 := by rw [F1.2 _ _ rfl, e83, q]
    obtain ⟨σ2, c2, y2, F2⟩ := copies_sp (a := 105) (b := 103) rfl rfl (by decide) (σ := σ1) (d := 98)
    have e20 : f_M_copies 99 105 103 σ1 = rV σ2 := c2
    -- what lies beyond is none
    have vm : ∀ k : Int, 0 ≤ k → k < 20 → σ2.1 103 k.toNat = zI (vOf σ 97 k) := fun k h0 h1 => by
      rw [y2 k.toNat (by omega), F1.2 105 _ rfl]; exact q5.vm k h0 h1
    have lp := zloop (α := Sg) 18 (fun i τ => f_M_undo_22 99 (zI i) τ) (fun i τ => 0 ≤ i ∧ Fr (fun a _ => a == 103) σ2 τ ∧ ∀ k : Int, 0 ≤ k → k < 20 → τ.1 103 k.toNat = zI (if k < i ∧ ¬ k % 6 < m then 0 else vOf σ 97 k)) (fun o => ∃ τ, o = rI (zI 1) τ ∧ Fr (fun a _ => a == 103) σ2 τ ∧ ∀ k : Int, 0 ≤ k → k < 20 → τ.1 103 k.toNat = zI (if k < 18 ∧ ¬ k % 6 < m then 0 else vOf σ 97 k)) ?_ ?_ 0 σ2 (by decide) ⟨by decide, Fr.rf _ _, fun k h0 h1 => by rw [if_neg (by omega)]; exact vm k h0 h1⟩
    · obtain ⟨σ3, e3, F3, w3⟩ := lp
      have eM : f_M_undo 100 σ1 = rI (zI 1) σ3 := by
        rw [f_M_undo_eq, g83, if_neg (by decide), e20, cV_rV, zI_0]; exact e3
      have F : Fr (fun a k => SU 87 a k || a == 103) σ σ3 := FrU (FrU F1 F2 (U := fun a k => SU 87 a k || a == 103) fun a k e => by simp at e ⊢; exact e) F3 fun a k e => by simp at e ⊢; exact e
      refine ⟨_, σ1, σ3, r, p, l, eN, eM, h.vil F ?_ (v := fun k => if k < 18 ∧ ¬ k % 6 < m then 0 else vOf σ 97 k) (fun x x0 x6 => ?_) ?_ ?_ ?_ w3⟩
      · refine dx_of hb ?_ ?_ (by rcases hb.2.2 with rfl | rfl <;> rfl) (by rcases hb.2.2 with rfl | rfl <;> repeat (first | exact trivial | refine ⟨fun _ => rfl, ?_⟩ | refine ⟨rfl, ?_⟩))
        all_goals repeat (first | exact trivial | refine ⟨fun _ => rfl, ?_⟩ | refine ⟨rfl, ?_⟩)
      · obtain ⟨p1, p2, p3⟩ := z x.toNat (by omega)
        obtain ⟨v1, v2, v3⟩ := V.1 x x0 x6
        have := toNat_c x0
        have t1 : ∀ a k, a ≠ 103 → σ3.1 a k = σ1.1 a k := fun a k q => by rw [F3.2 _ _ (by simp [q]), F2.2 _ _ (by simp [q])]
        rw [t1 88 _ (by decide), t1 89 _ (by decide), t1 90 _ (by decide), show σ1.1 88 x.toNat = _ from p1, show σ1.1 89 x.toNat = _ from p2, show σ1.1 90 x.toNat = _ from p3]
        show _ = zI (if x < 18 ∧ ¬ x % 6 < m then _ else _) ∧ _ = zI (if 6 + x < 18 ∧ ¬ (6 + x) % 6 < m then _ else _) ∧ _ = zI (if 12 + x < 18 ∧ ¬ (12 + x) % 6 < m then _ else _)
        by_cases c : x < m
        · refine ⟨?_, ?_, ?_⟩ <;> rw [if_pos (by omega), if_neg (by omega)]
          · exact v1
          · exact v2
          · exact v3
        · refine ⟨?_, ?_, ?_⟩ <;> rw [if_neg (by omega), if_pos (by omega)]
      · show _ = zI (if (18 : Int) < 18 ∧ _ then _ else _)
        rw [if_neg (by omega), F3.2 _ _ rfl, F2.2 _ _ rfl, z3]; exact V.2.1
      · show _ = zI (if (19 : Int) < 18 ∧ _ then _ else _)
        rw [if_neg (by omega), F3.2 _ _ rfl, F2.2 _ _ rfl, z4]; exact V.2.2.1
      · obtain ⟨b1, b2, b3, b4, b5, b6⟩ := q4.vb
        refine ⟨fun k h0 h1 => ?_, fun x x1 x0 x6 => ?_, ?_⟩
        · show 0 ≤ (if k < 18 ∧ ¬ k % 6 < m then _ else _) ∧ (if k < 18 ∧ ¬ k % 6 < m then _ else _) ≤ 9999
          split
          · omega
          · exact b1 k h0 h1
        · show (if x < 18 ∧ ¬ x % 6 < m then _ else _) = _ ∧ (if 6 + x < 18 ∧ ¬ (6 + x) % 6 < m then _ else _) = _ ∧ (if 12 + x < 18 ∧ ¬ (12 + x) % 6 < m then _ else _) = _
          rw [if_pos (by omega), if_pos (by omega), if_pos (by omega)]; exact ⟨rfl, rfl, rfl⟩
        · show 0 ≤ (if (18 : Int) < 18 ∧ _ then _ else _) ∧ (if (18 : Int) < 18 ∧ _ then _ else _) ≤ 9999 ∧ 0 ≤ (if (19 : Int) < 18 ∧ _ then _ else _) ∧ (if (19 : Int) < 18 ∧ _ then _ else _) ≤ 65535
          rw [if_neg (by omega), if_neg (by omega)]; exact ⟨b3, b4, b5, b6⟩
    · rintro i τ hi ⟨h0, F, w⟩
      have g1 : τ.1 102 5 = zI (rd σ r 0) := by rw [F.2 _ _ rfl, F2.2 _ _ rfl, F1.2 _ _ rfl]; exact (rd_k σ 102 5).trans (congrArg zI n4)
      have g2 : τ.1 102 84 = zI (rd σ 4 16) := by rw [F.2 _ _ rfl, F2.2 _ _ rfl, F1.2 _ _ rfl]; exact (rd_k σ 102 84).trans (congrArg zI q1)
      have hmn := minM_sp (σ := τ) (d := 98) (a := rd σ r 0) (b := rd σ 4 16) (by omega) (by omega)
      rw [show min (rd σ r 0) (rd σ 4 16) = m by omega] at hmn
      have ee : f_M_undo_22 99 (zI i) τ = if i % 6 < m then f_M_undo_22 99 (zI (i + 1)) τ else f_M_undo_22 99 (zI (i + 1)) (sI τ 103 i.toNat (zI 0)) := by
        rw [f_M_undo_22_eq]
        simp (disch := first | assumption | omega) only [cI_rI, cV_rV, cJ_rJ, rZ_0, rZ_1, rZ_z0, rZ_z1, zI_lit, zI_ofNat, zI_add, zI_sub, zI_mul, zI_neg, Int.cast_ofNat_Int, Int.reduceNeg, Int.reduceAdd, Int.reduceSub, Int.reduceMul, zI_eq, zI_le, ix_zI, bnd_zI, toNat_c, Int.reduceEq, Int.reduceLT, Int.reduceNe, Int.reduceToNat, Int.reduceMul, Int.reduceAdd, Int.zero_add, if_true, if_false, reduceIte, Nat.reduceAdd, rmI_nn, g1, g2, hmn, bnd_zI, ix_zI]
        rw [if_pos hi]
      by_cases c : i % 6 < m
      · refine Or.inr ⟨τ, ?_, by omega, F, fun k k0 k1 => ?_⟩
        · show f_M_undo_22 99 (zI i) τ = _
          rw [ee, if_pos c]
        · rw [w k k0 k1]
          by_cases e : k = i
          · subst e; rw [if_neg (by omega), if_neg (by omega)]
          · exact congrArg zI (ite_congr (propext ⟨fun q => by omega, fun q => by omega⟩) (fun _ => rfl) fun _ => rfl)
      · refine Or.inr ⟨sI τ 103 i.toNat (zI 0), ?_, by omega, F.sI _ rfl, fun k k0 k1 => ?_⟩
        · show f_M_undo_22 99 (zI i) τ = _
          rw [ee, if_neg c]
        · by_cases e : k = i
          · subst e; rw [sI_same, if_pos (by omega)]
          · rw [sI_slot _ _ _ _ (by omega), w k k0 k1]
            exact congrArg zI (ite_congr (propext ⟨fun q => by omega, fun q => by omega⟩) (fun _ => rfl) fun _ => rfl)
    · rintro τ ⟨h0, F, w⟩
      refine ⟨τ, ?_, F, w⟩
      show f_M_undo_22 99 (zI 18) τ = _
      rw [f_M_undo_22_eq, show (18 : Int32) = zI 18 from zI_lit 18, if_neg Int32.lt_irrefl, rZ_1]
