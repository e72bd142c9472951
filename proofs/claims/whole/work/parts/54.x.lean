/-- the text that the class reads -/
def CT (f n : Int) (T : Int → Int) (σ : Sg) : Prop := σ.1 5 2 = zI f ∧ σ.1 5 3 = zI n ∧ ∀ j, 0 ≤ j → j < n → σ.1 6 (f + j).toNat = zI (T j)
theorem CT.fr {S : Nat → Nat → Bool} {σ σ' : Sg} {f n : Int} {T : Int → Int} (h : CT f n T σ) (F : Fr S σ σ') (h1 : S 5 2 = false) (h2 : S 5 3 = false) (h3 : ∀ k, S 6 k = false) : CT f n T σ' := ⟨(F.2 _ _ h1).trans h.1, (F.2 _ _ h2).trans h.2.1, fun j j0 j1 => (F.2 _ _ (h3 _)).trans (h.2.2 j j0 j1)⟩
theorem now_sp {σ : Sg} {d : Nat} {f n i : Int} {T : Int → Int} (h : CT f n T σ) (ei : σ.1 5 4 = zI i) (f0 : 0 ≤ f) (fn : f + n ≤ 260) (i0 : 0 ≤ i) (i1 : i < n) : f_Tape_now (d + 1) σ = rI (zI (T i)) σ := by
  rw [f_Tape_now_eq, ei, h.2.1, if_pos (by rw [zI_le (by omega) (by omega)]; exact i1), h.1, zI_add, zI_0, if_neg (by rw [zI_le (by omega) (by omega)]; omega), show (Int32.ofNat 260) = zI 260 from rfl, if_pos (by rw [zI_le (by omega) (by omega)]; omega), bnd_zI (by omega) (by omega) (by omega), ix_zI (by omega) (by omega), h.2.2 i i0 i1]
theorem wAdd_v {i k : Int} {W : WS} {v : Int} (h : WSk i W) (i0 : 0 ≤ i) (e : wAdd W i k = Sum.inl v) : v < 0 ∧ -1000000 < v + 2 * i := by
  have := wStart_bd h i0
  unfold wAdd at e
  split at e
  · obtain rfl := Sum.inl.inj e; omega
  · cases e
theorem wOpen_v {i : Int} {W : WS} {v : Int} (i0 : 0 ≤ i) (e : wOpen W i = Sum.inl v) : v < 0 := by
  unfold wOpen at e
  split at e
  · obtain rfl := Sum.inl.inj e; omega
  · cases e
theorem wPop_v {i : Int} {W : WS} {v : Int} (h : WSk i W) (o : 1 ≤ W.op) (e : wPop W = Sum.inl v) : v < 0 := by
  have := h.y (W.op - 1) (by omega) (by omega)
  unfold wPop at e
  split at e
  · obtain rfl := Sum.inl.inj e; omega
  · cases e
theorem wByte_v {i c : Int} {W : WS} {v : Int} (h : WSk i W) (i0 : 0 ≤ i) (e : wByte W i c = Sum.inl v) : v < 0 := by
  unfold wByte at e
  split at e
  · exact wOpen_v i0 e
  split at e
  · split at e
    · obtain rfl := Sum.inl.inj e; omega
    · rename_i q
      have o := h.o
      have o1 : 1 ≤ W.op := by
        have : ¬ W.op = 0 := fun z => q (Or.inl z)
        omega
      exact wPop_v h o1 e
  split at e
  · cases e
  split at e
  · obtain rfl := Sum.inl.inj e; omega
  · exact (wAdd_v h i0 e).1
theorem wByte_lo {i c : Int} {W : WS} {v : Int} (h : WSk i W) (i0 : 0 ≤ i) (i1 : i < 1000) (e : wByte W i c = Sum.inl v) : -10000 < v := by
  have st := wStart_bd h i0
  unfold wByte at e
  split at e
  · unfold wOpen at e
    split at e
    · obtain rfl := Sum.inl.inj e; omega
    · cases e
  split at e
  · split at e
    · obtain rfl := Sum.inl.inj e; omega
    · rename_i q
      have o := h.o
      have o1 : 1 ≤ W.op := by
        have : ¬ W.op = 0 := fun z => q (Or.inl z)
        omega
      have := h.y (W.op - 1) (by omega) (by omega)
      unfold wPop at e
      split at e
      · obtain rfl := Sum.inl.inj e; omega
      · cases e
  split at e
  · cases e
  split at e
  · obtain rfl := Sum.inl.inj e; omega
  · unfold wAdd at e
    split at e
    · obtain rfl := Sum.inl.inj e; omega
    · cases e
theorem readByte_sp {σ : Sg} {a : Nat} {W : WS} (ha : isW a) (h : CW a W σ) {d : Nat} {f n i : Int} {T : Int → Int} (hk : WSk i W) (ht : CT f n T σ) (ei : σ.1 5 4 = zI i) (f0 : 0 ≤ f) (fn : f + n ≤ 260) (i0 : 0 ≤ i) (i1 : i < n) (tb : 0 ≤ T i ∧ T i < 256) : ∃ σ', Fr (SWo a) σ σ' ∧ f_Word_readByte (d + 3) a σ = rI (zI (wV (wByte W i (T i)))) σ' ∧ ∀ W', wByte W i (T i) = Sum.inr W' → CW a W' σ' := by
  have wd : 0 ≤ W.digit ∧ W.digit < 10 := by have := hk.d; omega
  generalize hc : T i = c at *
  have en : f_Tape_now (d + 2) σ = rI (zI c) σ := by rw [now_sp ht ei f0 fn i0 i1, hc]
  have C : ∀ k : Int, 0 ≤ k → k < 1000 → (zI c = zI k) = (c = k) := fun k k0 k1 => zI_eq (by omega) (by omega)
  rw [f_Word_readByte_eq, en, cI_rI, show (40 : Int32) = zI 40 from zI_lit 40, show (41 : Int32) = zI 41 from zI_lit 41, show (50 : Int32) = zI 50 from zI_lit 50, show (57 : Int32) = zI 57 from zI_lit 57]
  unfold wByte
  by_cases c1 : c = 40
  · obtain ⟨σ', F, e, hW⟩ := openRound_sp ha h (d := d) hk ei i0 (by omega)
    refine ⟨σ', F, ?_, fun W' e' => hW W' (by rw [if_pos c1] at e'; exact e')⟩
    rw [if_pos (congrArg zI c1), if_pos c1, gdK_of ha.s0, e, cI_rI]
  rw [if_neg c1, if_neg (by rw [C 40 (by decide) (by decide)]; exact c1)]
  by_cases c2 : c = 41
  · obtain ⟨σ', F, e, hW⟩ := closeRound_sp ha h (d := d) hk ei i0 (by omega)
    refine ⟨σ', F, ?_, fun W' e' => hW W' (by rw [if_pos c2] at e'; exact e')⟩
    rw [if_pos (congrArg zI c2), if_pos c2, gdK_of ha.s0, e, cI_rI]
  rw [if_neg c2, if_neg (by rw [C 41 (by decide) (by decide)]; exact c2)]
  -- a step, or not
  have fin : ¬(50 ≤ c ∧ c ≤ 57 ∧ W.digit = 0) → ∃ σ', Fr (SWo a) σ σ' ∧ (cI (f_N_stepOf (d + 2) (zI c) σ) fun v8 σ7 => if v8 < 0 then (cI (f_Tape_fault (d + 2) 1 σ7) fun v10 σ9 => rI v10 σ9) else gdK 9 a (cI (f_Word_addStep (d + 2) a v8 σ7) fun v12 σ11 => rI v12 σ11)) = rI (zI (wV (if 50 ≤ c ∧ c ≤ 57 ∧ W.digit = 0 then Sum.inr (WS.mk W.size W.op (c - 48) W.due W.st W.pl W.oa W.ot W.os) else if kOf c = -1 then Sum.inl (-1000 - i) else wAdd W i (kOf c)))) σ' ∧ ∀ W', (if 50 ≤ c ∧ c ≤ 57 ∧ W.digit = 0 then Sum.inr (WS.mk W.size W.op (c - 48) W.due W.st W.pl W.oa W.ot W.os) else if kOf c = -1 then Sum.inl (-1000 - i) else wAdd W i (kOf c)) = Sum.inr W' → CW a W' σ' := by
    intro q
    have kb := kOf_bd c
    rw [if_neg q, stepOf_sp (by omega), cI_rI, zI_0]
    by_cases z : kOf c = -1
    · refine ⟨σ, Fr.rf _ _, ?_, fun W' e' => by rw [if_pos z] at e'; cases e'⟩
      rw [if_pos (by rw [zI_le (by omega) (by decide)]; omega), if_pos z, show (1 : Int32) = zI 1 from zI_lit 1, tfault_sp ei, cI_rI]; rfl
    · obtain ⟨σ', F, e, hW⟩ := addStep_sp ha h (d := d) (k := kOf c) hk ei i0 (by omega)
      refine ⟨σ', F, ?_, fun W' e' => hW W' (by rw [if_neg z] at e'; exact e')⟩
      rw [if_neg (by rw [zI_le (by omega) (by decide)]; omega), if_neg z, gdK_of ha.s0, e, cI_rI]
  by_cases c3 : c < 50
  · rw [if_pos (by rw [zI_le (by omega) (by decide)]; exact c3)]; exact fin (by omega)
  rw [if_neg (by rw [zI_le (by omega) (by decide)]; exact c3)]
  by_cases c4 : 57 < c
  · rw [if_pos (by rw [zI_le (by decide) (by omega)]; exact c4)]; exact fin (by omega)
  rw [if_neg (by rw [zI_le (by decide) (by omega)]; exact c4), gfI_of ha.s0, h.2.2.1]
  by_cases c5 : W.digit = 0
  · rw [zI_0, if_pos (congrArg zI c5), if_pos ⟨by omega, by omega, c5⟩, pfI_of ha.s0, show (48 : Int32) = zI 48 from zI_lit 48, zI_sub]
    obtain ⟨h1, h2, h3, h4, h5, h6⟩ := id h
    refine ⟨_, (Fr.rf _ σ).sI _ (by simp [SWo]), rfl, fun W' e' => ?_⟩
    obtain rfl := Sum.inr.inj e'
    refine ⟨by rw [sI_slot _ _ _ _ (by decide)]; exact h1, by rw [sI_slot _ _ _ _ (by decide)]; exact h2, sI_same _ _ _ _, by rw [sI_slot _ _ _ _ (by decide)]; exact h4, fun x x0 x1 => ?_, fun x x0 x1 => ?_⟩
    · rw [sI_row _ _ _ _ _ (by omega), sI_row _ _ _ _ _ (by omega)]; exact h5 x x0 x1
    · rw [sI_row _ _ _ _ _ (by omega), sI_row _ _ _ _ _ (by omega), sI_row _ _ _ _ _ (by omega)]; exact h6 x x0 x1
  · rw [if_neg (by rw [zI_0, zI_eq (by omega) (by decide)]; exact c5)]
    exact fin (fun z => c5 z.2.2)
