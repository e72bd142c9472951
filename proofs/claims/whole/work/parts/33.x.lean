/-! THE CALLS of the village -/
theorem VC.reset {a : Nat} {v : Int → Int} {σ : Sg} (h : VC a v σ) : VC a (upI (upI (upI v 20 0) 21 0) 22 0) (sI (sI (sI σ a 5 (zI 0)) a 6 (zI 0)) a 7 (zI 0)) := (((h.cnt 0).1.cnt 0).2.1.cnt 0).2.2.1
theorem VB.reset {n : Int} {v : Int → Int} (h : VB n v) : VB n (upI (upI (upI v 20 0) 21 0) 22 0) := ((h.cnt (by decide)).cnt (by decide)).cnt (by decide)
/-- the class's years -/
theorem goBy_sp {a l r : Nat} {n : Int} {v : Int → Int} {σ : Sg} (ha : isV a) (hl : isL l) (h1 : VC a v σ) (h2 : VB n v) (h3 : RuleAt σ r n) (h4 : ILaw l σ) (n0 : 0 ≤ n) {d : Nat} {m : Int} (m0 : 0 ≤ m) (hm : m ≤ 100) : ∃ σ', f_Village_goBy (d + 9) a r l (zI m) σ = rV σ' ∧ VS a l r n (ldAt l σ) (rd σ (r + 1)) (rd σ (r + 2)) (rd σ (r + 3)) (vGo l (a + 4) (ldAt l σ) (rd σ (r + 1)) (rd σ (r + 2)) (rd σ (r + 3)) n.toNat m.toNat (upI (upI (upI v 20 0) 21 0) 22 0)) σ' ∧ Fr (SVL a l) σ σ' := by
  have F0 : Fr (SVL a l) σ (sI (sI (sI σ a 5 (zI 0)) a 6 (zI 0)) a 7 (zI 0)) := (((Fr.rf _ σ).sI _ (by simp [SVL, SV])).sI _ (by simp [SVL, SV])).sI _ (by simp [SVL, SV])
  have S0 : VS a l r n (ldAt l σ) (rd σ (r + 1)) (rd σ (r + 2)) (rd σ (r + 3)) v σ := ⟨h1, h2, h3, rfl, rfl, rfl, h4, rfl⟩
  have S1 := S0.fr ha hl F0 h1.reset h2.reset
  obtain ⟨σ', e, S2, F2⟩ := go18 ha hl (d := d) hm m.toNat 0 .null _ _ S1 n0 (by decide) (by omega)
  refine ⟨σ', ?_, S2, F0.tr F2⟩
  rw [f_Village_goBy_eq, pfI_of ha.s0, zI_0, pfI_of ha.s0, pfI_of ha.s0]
  exact e
theorem yearsGo_sp {l la : Nat} {n : Int} {D : LD} {W H C v : Int → Int} {σ : Sg} (hl : isL l) (hla : la = 91 ∨ la = 96) (h1 : ∀ k : Int, 0 ≤ k → k < 20 → σ.1 103 k.toNat = zI (v k)) (h2 : VB n v) (h3 : MR σ n W H C) (h4 : ILaw l σ) (h5 : ldAt l σ = D) {d : Nat} {m : Int} (m0 : 0 ≤ m) (hm : m ≤ 100) : ∃ σ', f_M_yearsGo (d + 6) (zI m) σ = rV σ' ∧ MS l n D W H C (vGo l la D W H C n.toNat m.toNat (upI (upI (upI v 20 0) 21 0) 22 0)) σ' ∧ Fr SM σ σ' := by
  have F0 : Fr SM σ (sI (sI (sI σ 102 79 (zI 0)) 102 80 (zI 0)) 102 81 (zI 0)) := (((Fr.rf _ σ).sI _ rfl).sI _ rfl).sI _ rfl
  have V0 : VM (upI (upI (upI v 20 0) 21 0) 22 0) (sI (sI (sI σ 102 79 (zI 0)) 102 80 (zI 0)) 102 81 (zI 0)) := by
    refine ⟨fun j j0 j1 => ?_, ?_, ?_, ?_⟩
    · rw [sI_row _ _ _ _ _ (by decide), sI_row _ _ _ _ _ (by decide), sI_row _ _ _ _ _ (by decide), upI_ne _ _ (by omega), upI_ne _ _ (by omega), upI_ne _ _ (by omega)]; exact h1 j j0 j1
    · rfl
    · rfl
    · rfl
  have S1 : MS l n D W H C (upI (upI (upI v 20 0) 21 0) 22 0) (sI (sI (sI σ 102 79 (zI 0)) 102 80 (zI 0)) 102 81 (zI 0)) := ⟨V0, h2.reset, h3.fr F0 rfl (fun _ => rfl) fun _ => rfl, h4.fr F0 (SM_D hl), (ldAt_fr F0 (SM_D hl)).trans h5⟩
  obtain ⟨σ', e, S2, F2⟩ := myears hl hla (d := d) hm m.toNat 0 _ _ S1 (by decide) (by omega)
  refine ⟨σ', ?_, S2, F0.tr F2⟩
  rw [f_M_yearsGo_eq, zI_0]
  exact e
theorem FrU {S T U : Nat → Nat → Bool} {σ σ1 σ2 : Sg} (h : Fr S σ σ1) (h' : Fr T σ1 σ2) (q : ∀ a k, U a k = false → S a k = false ∧ T a k = false) : Fr U σ σ2 := (h.mono fun a k e => (q a k e).1).tr (h'.mono fun a k e => (q a k e).2)
theorem Inv.bits {σ : Sg} {r p l : Nat} (h : Inv r p l σ) : (r = 7 ∨ r = 12) ∧ (p = 17 ∨ p = 25) ∧ (l = 33 ∨ l = 41) := ⟨h.1.1, h.1.2.1, h.1.2.2.1⟩
/-- only the village has changed -/
theorem Inv.vil {S : Nat → Nat → Bool} {σ σ' : Sg} {r p l : Nat} (h : Inv r p l σ) (F : Fr S σ σ') (hS : ∀ a k, (DTape a k || DRule r a k || DRoll r p a k || DLaw l a k || DHou r p a k || DKep a k) = true → S a k = false) {v : Int → Int} (h1 : VR 87 v σ') (h2 : σ'.1 87 3 = zI (v 18)) (h3 : σ'.1 87 4 = zI (v 19)) (hb : VB (rd σ r 0) v) (h4 : ∀ k : Int, 0 ≤ k → k < 20 → σ'.1 103 k.toNat = zI (v k)) : Inv r p l σ' := by
  obtain ⟨i1, i2, i3, i4, i5, i6, i7, i8⟩ := h
  refine ⟨i1.fr F, i2.fr F fun a k q => hS a k (by simp [q]), i3.fr F fun a k q => hS a k (by simp [q]), i4.fr F fun a k q => hS a k (by simp [q]), i5.fr F fun a k q => hS a k (by simp [q]), i6.fr F fun a k q => hS a k (by simp [q]), ?_, i8.fr F fun a k q => hS a k (by simp [q])⟩
  unfold IVil
  rw [show rd σ' r 0 = rd σ r 0 from fr_rd F (hS _ _ (by simp [DRule]))]
  exact V_mk h1 h2 h3 hb h4
def SYr (l : Nat) (a k : Nat) : Bool := SVL 87 l a k || SM a k
theorem c_years {σ : Sg} {r p l : Nat} (h : Inv r p l σ) (a : Int32) : Same (f_N_years 100 a) (f_M_years 100 a) σ := by
  obtain ⟨a, rfl, ha⟩ := zI_ex a
  have hbits := h.bits
  obtain ⟨-, -, hl⟩ := id h.1
  obtain ⟨n1, n2, n3, n4⟩ := h.n
  have hl : isL l := h.1.2.2.1
  by_cases q : 1 ≤ a ∧ a ≤ 100
  · have hvil := h.2.2.2.2.2.2.1
    obtain ⟨σ1, e1, S1, F1⟩ := goBy_sp (a := 87) (Or.inl rfl) hl (vOf_VC σ 87) hvil.1.vb h.2.2.1.1 h.2.2.2.2.1 n3.1 (d := 90) (m := a) (by omega) (by omega)
    have m1 : ∀ k : Int, 0 ≤ k → k < 20 → σ1.1 103 k.toNat = zI (vOf σ 87 k) := fun k k0 k1 => (F1.2 _ _ (by simp [SVL, SV, SL]; omega)).trans (hvil.2.vm k k0 k1)
    have mr1 := h.2.2.1.mr.fr F1 (by simp [SVL, SV, SL]; omega) (fun k => by simp [SVL, SV, SL]; omega) (fun k => by simp [SVL, SV, SL]; omega)
    obtain ⟨σ2, e2, S2, F2⟩ := yearsGo_sp hl (Or.inl rfl) m1 hvil.1.vb mr1 S1.2.2.2.2.2.2.1 S1.2.2.2.2.2.2.2 (d := 93) (m := a) (by omega) (by omega)
    have eN : f_N_years 100 (zI a) σ = rI (σ1.1 87 5) σ1 := by
      rw [f_N_years_eq, isYears_sp ha, cI_rI, decide_eq_true q, bz_tt, if_neg (by decide), n1, h.1.2.2.2.2.2.2.2.1, e1, cV_rV]
    have eM : f_M_years 100 (zI a) σ1 = rI (σ2.1 102 79) σ2 := by
      have z := in_sp (σ := σ1) (d := 98) (a := a) (b := 1) (c := 100) ha (by decide) (by decide)
      rw [f_M_years_eq, show (1 : Int32) = zI 1 from zI_lit 1, show (100 : Int32) = zI 100 from zI_lit 100, z, cI_rI, decide_eq_true q, bz_tt, if_neg (by decide), e2, cV_rV]
    have F := FrU F1 F2 (U := SYr l) (fun a k e => by simp [SYr] at e; exact e)
    refine ⟨σ1.1 87 5, σ1, σ2, r, p, l, eN, ?_, h.vil F ?_ (S1.1.1.fr F2 (fun _ => rfl) (fun _ => rfl) fun _ => rfl) ((F2.2 _ _ rfl).trans S1.1.2.1) ((F2.2 _ _ rfl).trans S1.1.2.2.1) S1.2.1 S2.1.1⟩
    · rw [eM, S1.1.2.2.2.1, S2.1.2.1]
    · intro a k; simp [SYr, SVL, SV, SL, SM, DTape, DRule, DRoll, DLaw, DHou, DKep, DV]; omega
  · refine ⟨zI (-1), σ, σ, r, p, l, ?_, ?_, h⟩
    · rw [f_N_years_eq, isYears_sp ha, cI_rI, decide_eq_false q, bz_ff, if_pos (by decide)]; rfl
    · have z := in_sp (σ := σ) (d := 98) (a := a) (b := 1) (c := 100) ha (by decide) (by decide)
      rw [f_M_years_eq, show (1 : Int32) = zI 1 from zI_lit 1, show (100 : Int32) = zI 100 from zI_lit 100, z, cI_rI, decide_eq_false q, bz_ff, if_pos (by decide)]; rfl
