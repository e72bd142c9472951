def STh (a k : Nat) : Bool := SWr 49 a k || SMw a k || a == 5 || (a == 102 && k == 7)
theorem c_those {σ : Sg} {r p l : Nat} (h : Inv r p l σ) (x n : Int32) : Same (f_N_those 100 x n) (f_M_those 100 x n) σ := by
  obtain ⟨x, rfl, hx⟩ := zI_ex x
  obtain ⟨n, rfl, hn⟩ := zI_ex n
  obtain ⟨n1, n2, n3, n4⟩ := h.n
  have q3 : σ.2.2 4 3 = p := h.1.2.2.2.2.2.1
  have hP := h.1.2.1
  have hR := h.1.1
  have hro := h.2.2.2.1
  obtain ⟨m0, m24, ok⟩ := id hro.1
  obtain ⟨t0, t1, t2, t3⟩ := h.2.1
  have hb := h.bits
  have iN := has_sp (σ := σ) hP.s0 rfl ⟨m0, m24⟩ (d := 98) hx
  have iM := fun (τ : Sg) (e : rd τ 102 69 = rd σ p 0) => isPersonM_sp (σ := τ) (n := rd σ p 0) e ⟨m0, m24⟩ (d := 97) hx
  have tN := isTapeHas (σ := σ) (d := 98) (a := n) (m := 40) (by decide) hn
  have inM := fun (τ : Sg) => in_sp (σ := τ) (d := 98) (a := n) (b := 1) (c := 40) hn (by decide) (by decide)
  have l7 : ∀ τ : Sg, rd τ 102 7 = rd σ 5 1 → (τ.1 102 7 < zI n) = (rd σ 5 1 < n) := fun τ e => by rw [(rd_k τ 102 7).trans (congrArg zI e)]; exact zI_le (by omega) hn
  by_cases qx : ¬ (0 ≤ x ∧ x < rd σ p 0)
  · refine ⟨-1, σ, σ, r, p, l, ?_, ?_, h⟩
    · rw [f_N_those_eq, q3, gdK_of hP.s0, iN, cI_rI, decide_eq_false qx, bz_ff, if_pos (by decide)]
    · rw [f_M_those_eq, iM σ hro.2.1, cI_rI, decide_eq_false qx, bz_ff, if_pos (by decide)]
  have qx := Classical.not_not.mp qx
  by_cases qn : ¬ (1 ≤ n ∧ n ≤ 40 ∧ n ≤ rd σ 5 1)
  · refine ⟨-1, σ, σ, r, p, l, ?_, ?_, h⟩
    · rw [f_N_those_eq, q3, gdK_of hP.s0, iN, cI_rI, decide_eq_true qx, bz_tt, if_neg (by decide), show (40 : Int32) = zI 40 from zI_lit 40, tN, cI_rI, decide_eq_false qn, bz_ff, if_pos (by decide)]
    · rw [f_M_those_eq, iM σ hro.2.1, cI_rI, decide_eq_true qx, bz_tt, if_neg (by decide), show (40 : Int32) = zI 40 from zI_lit 40, show (1 : Int32) = zI 1 from zI_lit 1, inM, cI_rI]
      by_cases z : 1 ≤ n ∧ n ≤ 40
      · rw [decide_eq_true z, bz_tt, if_neg (by decide), if_pos (by rw [l7 σ t2]; omega)]
      · rw [decide_eq_false z, bz_ff, if_pos (by decide)]
  have qn := Classical.not_not.mp qn
  obtain ⟨sx, -⟩ := ok x qx.1 qx.2
  generalize hs : rd σ (p + 1) x = s at sx
  have tb : ∀ j, 0 ≤ j → j < n → 0 ≤ rd σ 6 j ∧ rd σ 6 j < 256 := fun j j0 j1 => by have := t3 j j0 (by omega); omega
  have et := take_sp (σ := σ) (d := 98) (f := 0) (n := n)
  have F1 : Fr (fun x _ => x == 5) σ (sI (sI (sI (sI σ 5 2 (zI 0)) 5 3 (zI n)) 5 4 (zI 0)) 5 1 (zI 0)) := ((((Fr.rf _ σ).sI _ rfl).sI _ rfl).sI _ rfl).sI _ rfl
  have x1 : (sI (sI (sI (sI σ 5 2 (zI 0)) 5 3 (zI n)) 5 4 (zI 0)) 5 1 (zI 0)).1 5 1 = zI 0 := rfl
  have hC : CT 0 n (rd σ 6) (sI (sI (sI (sI σ 5 2 (zI 0)) 5 3 (zI n)) 5 4 (zI 0)) 5 1 (zI 0)) := ⟨rfl, rfl, fun j j0 j1 => by
    rw [Int.zero_add]
    show σ.1 6 j.toNat = _
    rw [rd_k, toNat_c j0]⟩
  have x4 : (sI (sI (sI (sI σ 5 2 (zI 0)) 5 3 (zI n)) 5 4 (zI 0)) 5 1 (zI 0)).1 5 4 = zI 0 := rfl
  generalize sI (sI (sI (sI σ 5 2 (zI 0)) 5 3 (zI n)) 5 4 (zI 0)) 5 1 (zI 0) = σ1 at F1 x1 x4 et hC
  obtain ⟨σ2, F2, eN, bd, hN⟩ := wordN (a := 49) (Or.inl rfl) (d := 95) (s := s) hC x4 (by decide) (by omega) (by omega) tb sx
  have F02 : Fr STh σ σ2 := FrU F1 F2 (U := STh) fun a k e => by
    simp only [STh, Bool.or_eq_false_iff] at e
    exact ⟨e.1.2, e.1.1.1⟩
  have hT : MT 0 n (rd σ 6) σ2 := fun j j0 j1 => by
    rw [Int.zero_add, F02.2 108 _ rfl]; exact (t3 j j0 (by omega)).2.2
  have nz : ∀ u, wRun (rd σ 6) n n.toNat 0 W0 = Sum.inl u → u ≠ 0 := fun u e => by
    obtain ⟨_, _, hh, _⟩ := wordRead_sp (a := 49) (Or.inl rfl) (d := 95) (s := s) hC x4 (by decide) (by omega) (by omega) tb
    have := (hh u e).1
    omega
  obtain ⟨σ3, F3, eM, hM, -⟩ := wordM (d := 95) (s := s) hT (by decide) (by omega) (by omega) tb sx nz
  have F03 : Fr STh σ (sI σ3 102 7 (zI 0)) := (F02.tr (F3.mono fun a k e => by
    simp only [STh, Bool.or_eq_false_iff] at e
    exact e.1.1.2)).sI _ rfl
  have hI : Inv r p l (sI σ3 102 7 (zI 0)) := by
    refine h.took F03 ?_ ?_ (by rcases hb.2.2 with rfl | rfl <;> rfl) (by rcases hb.2.2 with rfl | rfl <;> repeat (first | exact trivial | refine ⟨fun _ => rfl, ?_⟩ | refine ⟨rfl, ?_⟩)) ?_ (rd_same rfl (by decide) (by decide))
    · repeat (first | exact trivial | refine ⟨fun _ => rfl, ?_⟩ | refine ⟨rfl, ?_⟩)
    · repeat (first | exact trivial | refine ⟨fun _ => rfl, ?_⟩ | refine ⟨rfl, ?_⟩)
    · rw [rd_other (by decide)]
      have : σ3.1 5 1 = zI 0 := (F3.2 _ _ rfl).trans ((F2.2 _ _ rfl).trans x1)
      unfold rd
      rw [show (1 : Int).toNat = 1 from rfl, this]; rfl
  have hSD : ∀ a k, DRoll r p a k = true → STh a k = false := by
    intro a k e
    rcases hb.1 with rfl | rfl <;> rcases hb.2.1 with rfl | rfl <;> simp [DRoll] at e <;> rcases e with ((((((((((((((⟨rfl, rfl⟩ | ⟨rfl, (rfl | rfl) | rfl⟩) | rfl) | rfl) | rfl) | rfl) | rfl) | rfl) | rfl) | ⟨rfl, rfl⟩) | rfl) | rfl) | rfl) | rfl) | rfl) <;> rfl
  have hro2 : IRoll r p σ2 := hro.fr F02 hSD
  have q31 : σ1.2.2 4 3 = p := by rw [F1.1]; exact q3
  have q32 : σ2.2.2 4 3 = p := by rw [F02.1]; exact q3
  have es1 : σ1.1 (p + 1) x.toNat = zI s := by
    rw [F1.2 _ _ (by rcases hb.2.1 with rfl | rfl <;> rfl), rd_k, toNat_c qx.1, hs]
  have hm := hro2.2.1
  have p0 : rd σ2 p 0 = rd σ p 0 := fr_rd F02 (by rcases hb.2.1 with rfl | rfl <;> rfl)
  have r0 : rd σ2 r 0 = rd σ r 0 := fr_rd F02 (by rcases hb.1 with rfl | rfl <;> rfl)
  have es2 : σ2.1 142 x.toNat = zI s := by
    rw [F02.2 142 _ rfl, rd_k, toNat_c qx.1, (hro.2.2.1 x qx.1 qx.2).1, hs]
  have startN : f_N_those 100 (zI x) (zI n) σ = if wRes (rd σ 6) n s = 0 then (cI (f_Word_leadOnRoll 99 49 p (zI x) σ2) fun v11 σ10 => rI v11 σ10) else rI (zI (wRes (rd σ 6) n s)) σ2 := by
    rw [f_N_those_eq, q3, gdK_of hP.s0, iN, cI_rI, decide_eq_true qx, bz_tt, if_neg (by decide), show (40 : Int32) = zI 40 from zI_lit 40, tN, cI_rI, decide_eq_true qn, bz_tt, if_neg (by decide), zI_0, et, cV_rV, q31, gfS_of hP.s0, ofs_4_1, ldi_of hP.s1 qx.1 (by omega) (by omega), es1, eN, cI_rI]
    by_cases z : wRes (rd σ 6) n s = 0
    · rw [if_pos (congrArg zI z), if_pos z, q32]
    · rw [if_neg (by rw [zI_eq (by omega) (by decide)]; exact z), if_neg z]
  have startM : f_M_those 100 (zI x) (zI n) σ2 = if wRes (rd σ 6) n s < 0 then rI (zI (wRes (rd σ 6) n s)) (sI σ3 102 7 (zI 0)) else f_M_those_60 99 (.int (zI x)) (.int (zI n)) (.int (zI (wRes (rd σ 6) n s))) (zI 1 <<< (zI x &&& zI 31)) (zI 0) (sI σ3 102 7 (zI 0)) := by
    rw [f_M_those_eq, iM σ2 (hm.trans p0), cI_rI, decide_eq_true qx, bz_tt, if_neg (by decide), show (40 : Int32) = zI 40 from zI_lit 40, show (1 : Int32) = zI 1 from zI_lit 1, inM, cI_rI, decide_eq_true (show 1 ≤ n ∧ n ≤ 40 by omega), bz_tt, if_neg (by decide), if_neg (by rw [l7 σ2 ((fr_rd F2 rfl).trans ((fr_rd F1 rfl).trans t2))]; omega), bnd_zI qx.1 (by omega) (by omega), ix_zI qx.1 (by omega), es2, zI_0, eM, cI_rI]
    show (if zI (wRes (rd σ 6) n s) < zI 0 then _ else _) = _
    by_cases z : wRes (rd σ 6) n s < 0
    · rw [if_pos (by rw [zI_le (by omega) (by decide)]; exact z), if_pos z]
    · rw [if_neg (by rw [zI_le (by omega) (by decide)]; exact z), if_neg z]; rfl
  by_cases z : wRes (rd σ 6) n s = 0
  · obtain ⟨W, w1, w2, w3⟩ := hN z
    obtain ⟨W', v1, v2, v3⟩ := hM z
    obtain rfl : W = W' := Sum.inr.inj (w1.symm.trans v1)
    have mo : MWo W (sI σ3 102 7 (zI 0)) := v2
    have p3 : rd (sI σ3 102 7 (zI 0)) p 0 = rd σ p 0 := fr_rd F03 (hSD _ _ (by simp [DRoll]))
    have r3 : rd (sI σ3 102 7 (zI 0)) r 0 = rd σ r 0 := fr_rd F03 (hSD _ _ (by simp [DRoll]))
    have wk := w3.1
    obtain ⟨u, z1, z2⟩ := leadRoll (a := 49) (Or.inl rfl) (d := 95) (d2 := 96) hro2 (hro.fr F03 hSD) hP (by rw [r0]; exact n3.2) (by rw [r3]; exact n3.2) ((relF_fr F03 hSD).trans (relF_fr F02 hSD).symm) (p3.trans p0.symm) w2 mo w3 W.size.toNat 0 (zI 1 <<< (zI x &&& zI 31)) (.int (zI x)) (.int (zI x)) (.int (zI n)) (.int (zI (wRes (rd σ 6) n s))) (by omega) (by decide)
    refine ⟨u, σ2, _, r, p, l, ?_, ?_, hI⟩
    · rw [startN, if_pos z, f_Word_leadOnRoll_eq, zI_0, show (1 : Int32) = zI 1 from zI_lit 1, show (31 : Int32) = zI 31 from zI_lit 31, z1, cI_rI]
    · rw [startM, if_neg (by omega), z2]
  · refine ⟨_, σ2, _, r, p, l, by rw [startN, if_neg z], by rw [startM, if_pos (by omega)], hI⟩
