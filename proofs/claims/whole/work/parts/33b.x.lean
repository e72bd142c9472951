/-- only the village has changed -/
theorem Inv.vil {S : Nat → Nat → Bool} {σ σ' : Sg} {r p l : Nat} (h : Inv r p l σ) (F : Fr S σ σ') (hS : ∀ a k, DX r p l a k = true → S a k = false) {v : Int → Int} (h1 : VR 87 v σ') (h2 : σ'.1 87 3 = zI (v 18)) (h3 : σ'.1 87 4 = zI (v 19)) (hb : VB (rd σ r 0) v) (h4 : ∀ k : Int, 0 ≤ k → k < 20 → σ'.1 103 k.toNat = zI (v k)) : Inv r p l σ' := by
  obtain ⟨i1, i2, i3, i4, i5, i6, i7, i8⟩ := h
  refine ⟨i1.fr F, i2.fr F fun a k q => hS a k (by simp [DX, q]), i3.fr F fun a k q => hS a k (by simp [DX, q]), i4.fr F fun a k q => hS a k (by simp [DX, q]), i5.fr F fun a k q => hS a k (by simp [DX, q]), i6.fr F fun a k q => hS a k (by simp [DX, q]), ?_, i8.fr F fun a k q => hS a k (by simp [DX, q])⟩
  unfold IVil
  rw [show rd σ' r 0 = rd σ r 0 from fr_rd F (hS _ _ (by simp [DX, DRule]))]
  exact V_mk h1 h2 h3 hb h4
theorem Inv.scr {S : Nat → Nat → Bool} {σ σ' : Sg} {r p l : Nat} (h : Inv r p l σ) (F : Fr S σ σ') (h1 : allR S DR0) (h2 : allC S DC0) (h3 : S l 0 = false) (h4 : allR S [l + 1, l + 2, l + 3, l + 4, l + 5, l + 6]) (h5 : allR S [88, 89, 90, 103]) (h6 : S 87 3 = false ∧ S 87 4 = false) : Inv r p l σ' := by
  have hv := h.2.2.2.2.2.2.1
  have V := vOf_VC σ 87
  refine h.vil F (dx_of h.bits h1 h2 h3 h4) (v := vOf σ 87) (V.1.fr F h5.1 h5.2.1 h5.2.2.1) ((F.2 _ _ h6.1).trans V.2.1) ((F.2 _ _ h6.2).trans V.2.2.1) hv.1.vb fun k k0 k1 => (F.2 _ _ (h5.2.2.2.1 _)).trans (hv.2.vm k k0 k1)
def SYr (l : Nat) (a k : Nat) : Bool := SVL 87 l a k || SM a k
theorem c_years {σ : Sg} {r p l : Nat} (h : Inv r p l σ) (a : Int32) : Same (f_N_years 100 a) (f_M_years 100 a) σ := by
  obtain ⟨a, rfl, ha⟩ := zI_ex a
  have hbits := h.bits
  obtain ⟨-, -, hl⟩ := id h.1
  obtain ⟨n1, n2, n3, n4⟩ := h.n
  have hl : isL l := h.1.2.2.1
  by_cases q : 1 ≤ a ∧ a ≤ 100
  · have hvil := h.2.2.2.2.2.2.1
    obtain ⟨σ1, e1, S1, F1⟩ := goBy_sp (a := 87) (Or.inl rfl) hl (vOf_VC σ 87).1 (vOf_VC σ 87).2.1 (vOf_VC σ 87).2.2.1 hvil.1.vb h.2.2.1.1 h.2.2.2.2.1 n3.1 (d := 90) (m := a) (by omega) (by omega)
    have m1 : ∀ k : Int, 0 ≤ k → k < 20 → σ1.1 103 k.toNat = zI (vOf σ 87 k) := fun k k0 k1 => (F1.2 _ _ (by simp [SVL, SV, SL]; omega)).trans (hvil.2.vm k k0 k1)
    have mr1 := h.2.2.1.mr.fr F1 (by simp [SVL, SV, SL]; omega) (fun k => by simp [SVL, SV, SL]; omega) (fun k => by simp [SVL, SV, SL]; omega)
    obtain ⟨σ2, e2, S2, F2⟩ := yearsGo_sp hl (Or.inl rfl) m1 hvil.1.vb mr1 S1.2.2.2.2.2.2.1 S1.2.2.2.2.2.2.2 (d := 93) (m := a) (by omega) (by omega)
    have eN : f_N_years 100 (zI a) σ = rI (σ1.1 87 5) σ1 := by
      rw [f_N_years_eq, isYears_sp ha, cI_rI, decide_eq_true q, bz_tt, if_neg (by decide), n1, h.1.2.2.2.2.2.2.2.1, e1, cV_rV]
    have eM : f_M_years 100 (zI a) σ1 = rI (σ2.1 102 79) σ2 := by
      have z := in_sp (σ := σ1) (d := 98) (a := a) (b := 1) (c := 100) ha (by decide) (by decide)
      rw [f_M_years_eq, show (1 : Int32) = zI 1 from zI_lit 1, show (100 : Int32) = zI 100 from zI_lit 100, z, cI_rI, decide_eq_true q, bz_tt, if_neg (by decide), e2, cV_rV]
    have F := FrU F1 F2 (U := SYr l) (fun a k e => by simp [SYr] at e; exact e)
    refine ⟨σ1.1 87 5, σ1, σ2, r, p, l, eN, ?_, h.vil F ?_ (S1.1.1.fr F2 (fun _ => rfl) (fun _ => rfl) fun _ => rfl) ((F2.2 _ _ rfl).trans S1.1.2.1) ((F2.2 _ _ rfl).trans S1.1.2.2.1) S1.2.1 S2.1.1⟩
    · rw [eM, S1.1.2.2.2.1, S2.1.2.1]
    · obtain ⟨-, -, rfl | rfl⟩ := id hbits
      all_goals refine dx_of hbits ?_ ?_ rfl ?_
      all_goals repeat (first | exact trivial | refine ⟨fun _ => rfl, ?_⟩ | refine ⟨rfl, ?_⟩)
  · refine ⟨zI (-1), σ, σ, r, p, l, ?_, ?_, h⟩
    · rw [f_N_years_eq, isYears_sp ha, cI_rI, decide_eq_false q, bz_ff, if_pos (by decide)]; rfl
    · have z := in_sp (σ := σ) (d := 98) (a := a) (b := 1) (c := 100) ha (by decide) (by decide)
      rw [f_M_years_eq, show (1 : Int32) = zI 1 from zI_lit 1, show (100 : Int32) = zI 100 from zI_lit 100, z, cI_rI, decide_eq_false q, bz_ff, if_pos (by decide)]; rfl
