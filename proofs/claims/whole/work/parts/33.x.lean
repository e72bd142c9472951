/-! THE CALLS of the village -/
theorem VB.reset {n : Int} {v : Int → Int} (h : VB n v) : VB n (upI (upI (upI v 20 0) 21 0) 22 0) := ((h.cnt (by decide)).cnt (by decide)).cnt (by decide)
theorem VC.zero {a : Nat} {v : Int → Int} {σ : Sg} (hR : VR a v σ) (a3 : σ.1 a 3 = zI (v 18)) (a4 : σ.1 a 4 = zI (v 19)) : VC a (upI (upI (upI v 20 0) 21 0) 22 0) (sI (sI (sI σ a 5 (zI 0)) a 6 (zI 0)) a 7 (zI 0)) := by
  refine ⟨fun x x0 x6 => ?_, ?_, ?_, ?_, ?_, ?_⟩
  · rw [sI_row _ _ _ _ _ (by omega), sI_row _ _ _ _ _ (by omega), sI_row _ _ _ _ _ (by omega), sI_row _ _ _ _ _ (by omega), sI_row _ _ _ _ _ (by omega), sI_row _ _ _ _ _ (by omega), sI_row _ _ _ _ _ (by omega), sI_row _ _ _ _ _ (by omega), sI_row _ _ _ _ _ (by omega)]
    have e : ∀ j, j < 20 → upI (upI (upI v 20 0) 21 0) 22 0 j = v j := fun j h => by rw [upI_ne _ _ (by omega), upI_ne _ _ (by omega), upI_ne _ _ (by omega)]
    rw [e x (by omega), e (6 + x) (by omega), e (12 + x) (by omega)]; exact hR x x0 x6
  · rw [sI_slot _ _ _ _ (by decide), sI_slot _ _ _ _ (by decide), sI_slot _ _ _ _ (by decide)]; exact a3
  · rw [sI_slot _ _ _ _ (by decide), sI_slot _ _ _ _ (by decide), sI_slot _ _ _ _ (by decide)]; exact a4
  · rw [sI_slot _ _ _ _ (by decide), sI_slot _ _ _ _ (by decide), sI_same]; rfl
  · rw [sI_slot _ _ _ _ (by decide), sI_same]; rfl
  · rw [sI_same]; rfl
/-- the class's years -/
theorem goBy_sp {a l r : Nat} {n : Int} {v : Int → Int} {σ : Sg} (ha : isV a) (hl : isL l) (h1 : VR a v σ) (h18 : σ.1 a 3 = zI (v 18)) (h19 : σ.1 a 4 = zI (v 19)) (h2 : VB n v) (h3 : RuleAt σ r n) (h4 : ILaw l σ) (n0 : 0 ≤ n) {d : Nat} {m : Int} (m0 : 0 ≤ m) (hm : m ≤ 100) : ∃ σ', f_Village_goBy (d + 9) a r l (zI m) σ = rV σ' ∧ VS a l r n (ldAt l σ) (rd σ (r + 1)) (rd σ (r + 2)) (rd σ (r + 3)) (vGo l (a + 4) (ldAt l σ) (rd σ (r + 1)) (rd σ (r + 2)) (rd σ (r + 3)) n.toNat m.toNat (upI (upI (upI v 20 0) 21 0) 22 0)) σ' ∧ Fr (SVL a l) σ σ' := by
  have F0 : Fr (SVL a l) σ (sI (sI (sI σ a 5 (zI 0)) a 6 (zI 0)) a 7 (zI 0)) := (((Fr.rf _ σ).sI _ (by simp [SVL, SV])).sI _ (by simp [SVL, SV])).sI _ (by simp [SVL, SV])
  have S1 : VS a l r n (ldAt l σ) (rd σ (r + 1)) (rd σ (r + 2)) (rd σ (r + 3)) (upI (upI (upI v 20 0) 21 0) 22 0) (sI (sI (sI σ a 5 (zI 0)) a 6 (zI 0)) a 7 (zI 0)) := by
    obtain ⟨g1, g2, g3, g4, -⟩ := h3.fr F0 (SVL_r ha hl h3.1)
    exact ⟨VC.zero h1 h18 h19, h2.reset, g1, g2, g3, g4, h4.fr F0 (SVL_D ha hl), ldAt_fr F0 (SVL_D ha hl)⟩
  obtain ⟨σ', e, S2, F2⟩ := go18 ha hl (d := d) hm m.toNat 0 .null _ _ S1 n0 (by decide) (by omega)
  refine ⟨σ', ?_, S2, F0.tr F2⟩
  rw [f_Village_goBy_eq, pfI_of ha.s0, zI_0, pfI_of ha.s0, pfI_of ha.s0]
  exact e
theorem yearsGo_sp {l la : Nat} {n : Int} {D : LD} {W H C v : Int → Int} {σ : Sg} (hl : isL l) (hla : la = 91 ∨ la = 96) (h1 : ∀ k : Int, 0 ≤ k → k < 20 → σ.1 103 k.toNat = zI (v k)) (h2 : VB n v) (h3 : MR σ n W H C) (h4 : ILaw l σ) (h5 : ldAt l σ = D) {d : Nat} {m : Int} (m0 : 0 ≤ m) (hm : m ≤ 100) : ∃ σ', f_M_yearsGo (d + 6) (zI m) σ = rV σ' ∧ MS l n D W H C (vGo l la D W H C n.toNat m.toNat (upI (upI (upI v 20 0) 21 0) 22 0)) σ' ∧ Fr SM σ σ' := by
  have F0 : Fr SM σ (sI (sI (sI σ 102 79 (zI 0)) 102 80 (zI 0)) 102 81 (zI 0)) := (((Fr.rf _ σ).sI _ rfl).sI _ rfl).sI _ rfl
  have V0 : VM (upI (upI (upI v 20 0) 21 0) 22 0) (sI (sI (sI σ 102 79 (zI 0)) 102 80 (zI 0)) 102 81 (zI 0)) := by
    refine ⟨fun j j0 j1 => ?_, ?_, ?_, ?_⟩
    · rw [sI_row _ _ _ _ _ (by decide), sI_row _ _ _ _ _ (by decide), sI_row _ _ _ _ _ (by decide), upI_ne _ _ (by omega), upI_ne _ _ (by omega), upI_ne _ _ (by omega)]; exact h1 j j0 j1
    · rfl
    · rfl
    · rfl
  have S1 : MS l n D W H C (upI (upI (upI v 20 0) 21 0) 22 0) (sI (sI (sI σ 102 79 (zI 0)) 102 80 (zI 0)) 102 81 (zI 0)) := ⟨V0, h2.reset, h3.fr F0 rfl (fun _ => rfl) fun _ => rfl, h4.fr F0 (SM_D hl), (ldAt_fr F0 (SM_D hl)).trans h5⟩
  obtain ⟨σ', e, S2, F2⟩ := myears hl hla (d := d) hm m.toNat 0 _ _ S1 (by decide) (by omega)
  refine ⟨σ', ?_, S2, F0.tr F2⟩
  rw [f_M_yearsGo_eq, zI_0]
  exact e
theorem FrU {S T U : Nat → Nat → Bool} {σ σ1 σ2 : Sg} (h : Fr S σ σ1) (h' : Fr T σ1 σ2) (q : ∀ a k, U a k = false → S a k = false ∧ T a k = false) : Fr U σ σ2 := (h.mono fun a k e => (q a k e).1).tr (h'.mono fun a k e => (q a k e).2)
theorem Inv.bits {σ : Sg} {r p l : Nat} (h : Inv r p l σ) : (r = 7 ∨ r = 12) ∧ (p = 17 ∨ p = 25) ∧ (l = 33 ∨ l = 41) := ⟨h.1.1, h.1.2.1, h.1.2.2.1⟩
/-- all but the village, roughly -/
def DX (r p l : Nat) (a k : Nat) : Bool := DTape a k || DRule r a k || DRoll r p a k || DLaw l a k || DHou r p a k || DKep a k
def DR0 : List Nat := [6, 108, 7, 8, 9, 10, 11, 12, 13, 14, 15, 16, 18, 19, 20, 21, 22, 23, 24, 26, 27, 28, 29, 30, 31, 32, 76, 77, 80, 81, 98, 99, 100, 4, 105, 106, 107, 115, 116, 117, 118, 119, 142, 143, 144, 145, 146]
def DC0 : List (Nat × Nat) := [(5, 1), (102, 7), (102, 5), (102, 69), (102, 16), (102, 83), (102, 84), (17, 0), (17, 8), (17, 9), (25, 0), (25, 8), (25, 9), (97, 3), (97, 4)]
def allR (S : Nat → Nat → Bool) : List Nat → Prop
  | [] => True
  | a :: t => (∀ k, S a k = false) ∧ allR S t
def allC (S : Nat → Nat → Bool) : List (Nat × Nat) → Prop
  | [] => True
  | a :: t => S a.1 a.2 = false ∧ allC S t
theorem allR_at {S : Nat → Nat → Bool} : ∀ {L : List Nat}, allR S L → ∀ a, elm L a = true → ∀ k, S a k = false
  | [], _, _, h, _ => by cases h
  | b :: t, h, a, e, k => by
    rw [elm] at e
    cases q : Nat.beq b a with
    | true => rw [← Nat.eq_of_beq_eq_true q]; exact h.1 k
    | false => rw [q] at e; exact allR_at h.2 a e k
def elc : List (Nat × Nat) → Nat → Nat → Bool
  | [], _, _ => false
  | b :: t, a, k => (Nat.beq b.1 a && Nat.beq b.2 k) || elc t a k
theorem allC_at {S : Nat → Nat → Bool} : ∀ {L : List (Nat × Nat)}, allC S L → ∀ a k, elc L a k = true → S a k = false
  | [], _, _, _, h => by cases h
  | b :: t, h, a, k, e => by
    rw [elc, Bool.or_eq_true, Bool.and_eq_true] at e
    rcases e with ⟨e1, e2⟩ | e
    · rw [← Nat.eq_of_beq_eq_true e1, ← Nat.eq_of_beq_eq_true e2]; exact h.1
    · exact allC_at h.2 a k e
theorem dx_tape {S : Nat → Nat → Bool} (g1 : ∀ a, elm DR0 a = true → ∀ k, S a k = false) (g2 : ∀ a k, elc DC0 a k = true → S a k = false) : ∀ a k, DTape a k = true → S a k = false := by
  intro a k h
  simp only [DTape, Bool.or_eq_true, Bool.and_eq_true, beq_iff_eq] at h
  rcases h with ((⟨rfl, rfl⟩ | ⟨rfl, rfl⟩) | rfl) | rfl
  · exact g2 _ _ rfl
  · exact g2 _ _ rfl
  · exact g1 _ rfl _
  · exact g1 _ rfl _
theorem dx_rule {S : Nat → Nat → Bool} {r : Nat} (hr : r = 7 ∨ r = 12) (g1 : ∀ a, elm DR0 a = true → ∀ k, S a k = false) (g2 : ∀ a k, elc DC0 a k = true → S a k = false) : ∀ a k, DRule r a k = true → S a k = false := by
  intro a k h
  simp only [DRule, Bool.or_eq_true, Bool.and_eq_true, beq_iff_eq] at h
  rcases hr with rfl | rfl
  all_goals
    rcases h with ((((((rfl | rfl) | rfl) | rfl) | rfl) | ⟨rfl, rfl⟩) | rfl) | rfl
    all_goals first | exact g1 _ rfl _ | exact g2 _ _ rfl
theorem dx_roll {S : Nat → Nat → Bool} {r p : Nat} (hr : r = 7 ∨ r = 12) (hp : p = 17 ∨ p = 25) (g1 : ∀ a, elm DR0 a = true → ∀ k, S a k = false) (g2 : ∀ a k, elc DC0 a k = true → S a k = false) : ∀ a k, DRoll r p a k = true → S a k = false := by
  intro a k h
  simp only [DRoll, Bool.or_eq_true, Bool.and_eq_true, beq_iff_eq] at h
  rcases h with ((((((((((((((⟨rfl, rfl⟩ | ⟨rfl, (rfl | rfl) | rfl⟩) | rfl) | rfl) | rfl) | rfl) | rfl) | rfl) | rfl) | ⟨rfl, rfl⟩) | rfl) | rfl) | rfl) | rfl) | rfl)
  · rcases hr with rfl | rfl <;> exact g1 _ rfl _
  · rcases hp with rfl | rfl <;> exact g2 _ _ rfl
  · rcases hp with rfl | rfl <;> exact g2 _ _ rfl
  · rcases hp with rfl | rfl <;> exact g2 _ _ rfl
  all_goals first | exact g1 _ rfl _ | exact g2 _ _ rfl | (rcases hp with rfl | rfl <;> exact g1 _ rfl _)
theorem dx_law {S : Nat → Nat → Bool} {l : Nat} (g1 : ∀ a, elm DR0 a = true → ∀ k, S a k = false) (g2 : ∀ a k, elc DC0 a k = true → S a k = false) (h3 : S l 0 = false) (h4 : allR S [l + 1, l + 2, l + 3, l + 4, l + 5, l + 6]) : ∀ a k, DLaw l a k = true → S a k = false := by
  intro a k h
  obtain ⟨q1, q2, q3, q4, q5, q6, -⟩ := h4
  simp only [DLaw, Bool.or_eq_true, Bool.and_eq_true, beq_iff_eq] at h
  rcases h with ((((((((((((⟨rfl, rfl⟩ | rfl) | rfl) | rfl) | rfl) | rfl) | rfl) | ⟨rfl, rfl⟩) | rfl) | rfl) | rfl) | rfl) | rfl)
  · exact h3
  · exact q1 _
  · exact q2 _
  · exact q3 _
  · exact q4 _
  · exact q5 _
  · exact q6 _
  · exact g2 _ _ rfl
  all_goals exact g1 _ rfl _
theorem dx_hou {S : Nat → Nat → Bool} {r p : Nat} (hr : r = 7 ∨ r = 12) (hp : p = 17 ∨ p = 25) (g1 : ∀ a, elm DR0 a = true → ∀ k, S a k = false) (g2 : ∀ a k, elc DC0 a k = true → S a k = false) : ∀ a k, DHou r p a k = true → S a k = false := by
  intro a k h
  simp only [DHou, Bool.or_eq_true, Bool.and_eq_true, beq_iff_eq] at h
  rcases h with (((((((((((((⟨rfl, rfl⟩ | rfl) | rfl) | rfl) | ⟨rfl, rfl⟩) | rfl) | rfl) | rfl) | rfl) | rfl) | rfl) | rfl) | rfl) | rfl)
  all_goals first | exact g1 _ rfl _ | (rcases hr with rfl | rfl <;> exact g1 _ rfl _) | (rcases hp with rfl | rfl <;> first | exact g1 _ rfl _ | exact g2 _ _ rfl)
theorem dx_kep {S : Nat → Nat → Bool} (g1 : ∀ a, elm DR0 a = true → ∀ k, S a k = false) (g2 : ∀ a k, elc DC0 a k = true → S a k = false) : ∀ a k, DKep a k = true → S a k = false := by
  intro a k h
  simp only [DKep, DV, Bool.or_eq_true, Bool.and_eq_true, beq_iff_eq] at h
  rcases h with (rfl | ⟨rfl, rfl | rfl⟩) | (((⟨rfl, rfl | rfl⟩ | rfl) | rfl) | rfl) | rfl
  all_goals first | exact g1 _ rfl _ | exact g2 _ _ rfl
theorem dx_of {S : Nat → Nat → Bool} {r p l : Nat} (hb : (r = 7 ∨ r = 12) ∧ (p = 17 ∨ p = 25) ∧ (l = 33 ∨ l = 41)) (h1 : allR S DR0) (h2 : allC S DC0) (h3 : S l 0 = false) (h4 : allR S [l + 1, l + 2, l + 3, l + 4, l + 5, l + 6]) : ∀ a k, DX r p l a k = true → S a k = false := by
  intro a k h
  simp only [DX, Bool.or_eq_true] at h
  rcases h with ((((h | h) | h) | h) | h) | h
  · exact dx_tape (allR_at h1) (allC_at h2) a k h
  · exact dx_rule hb.1 (allR_at h1) (allC_at h2) a k h
  · exact dx_roll hb.1 hb.2.1 (allR_at h1) (allC_at h2) a k h
  · exact dx_law (allR_at h1) (allC_at h2) h3 h4 a k h
  · exact dx_hou hb.1 hb.2.1 (allR_at h1) (allC_at h2) a k h
  · exact dx_kep (allR_at h1) (allC_at h2) a k h
