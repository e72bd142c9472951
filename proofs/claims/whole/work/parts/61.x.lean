/-- the class reads a word -/
theorem wordRead_sp {σ : Sg} {a : Nat} (ha : isW a) {d : Nat} {f n s : Int} {T : Int → Int} (ht : CT f n T σ) (e4 : σ.1 5 4 = zI 0) (f0 : 0 ≤ f) (n0 : 0 ≤ n) (fn : f + n ≤ 260) (tb : ∀ j, 0 ≤ j → j < n → 0 ≤ T j ∧ T j < 256) : ∃ σ', Fr (SWr a) σ σ' ∧ (∀ u, wRun T n n.toNat 0 W0 = Sum.inl u → u < 0 ∧ -10000 < u ∧ f_Word_read (d + 4) a (zI s) σ = rI (zI u) σ') ∧ ∀ W', wRun T n n.toNat 0 W0 = Sum.inr W' → f_Word_read (d + 4) a (zI s) σ = (cI (f_Word_firstNoSpouse (d + 3) a (zI s) σ') fun v10 σ9 => rI v10 σ9) ∧ CW a W' σ' ∧ WSk n W' := by
  have st : f_Word_read (d + 4) a (zI s) σ = f_Word_read_20 (d + 3) a (zI s) .null (sI (sI (sI (sI σ a 0 (zI 0)) a 3 (zI 0)) a 7 (zI 0)) a 8 (zI 1)) := by
    rw [f_Word_read_eq, zI_0, pfI_of ha.s0, pfI_of ha.s0, pfI_of ha.s0, show (1 : Int32) = zI 1 from zI_lit 1, pfZ_1 ha.s0]
  have C : CW a W0 (sI (sI (sI (sI σ a 0 (zI 0)) a 3 (zI 0)) a 7 (zI 0)) a 8 (zI 1)) := by
    refine ⟨?_, ?_, ?_, sI_same _ _ _ _, fun x x0 x1 => by have x1 : x < 0 := x1; omega, fun x x0 x1 => by have x1 : x < 0 := x1; omega⟩
    · rw [sI_slot _ _ _ _ (by decide), sI_slot _ _ _ _ (by decide), sI_slot _ _ _ _ (by decide), sI_same]; rfl
    · rw [sI_slot _ _ _ _ (by decide), sI_slot _ _ _ _ (by decide), sI_same]; rfl
    · rw [sI_slot _ _ _ _ (by decide), sI_same]; rfl
  have F : Fr (SWr a) σ (sI (sI (sI (sI σ a 0 (zI 0)) a 3 (zI 0)) a 7 (zI 0)) a 8 (zI 1)) := ((((Fr.rf _ σ).sI _ (by simp [SWr, SWo])).sI _ (by simp [SWr, SWo])).sI _ (by simp [SWr, SWo])).sI _ (by simp [SWr, SWo])
  obtain ⟨σ', F', hb, ho⟩ := wRead_sp ha (d := d) (s := s) ht f0 n0 fn tb n.toNat 0 W0 _ .null (by omega) (by decide) F C W0_k (by
    have : (5 : Nat) ≠ a := by rcases ha with rfl | rfl <;> decide
    rw [sI_row _ _ _ _ _ this, sI_row _ _ _ _ _ this, sI_row _ _ _ _ _ this, sI_row _ _ _ _ _ this]; exact e4)
  rw [st]
  exact ⟨σ', F', hb, ho⟩
