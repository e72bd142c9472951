theorem isW.s1 {a : Nat} (h : isW a) : SH (a + 1) = (14, 24) := by rcases h with rfl | rfl <;> rfl
theorem isW.s2 {a : Nat} (h : isW a) : SH (a + 2) = (14, 24) := by rcases h with rfl | rfl <;> rfl
theorem isW.s3 {a : Nat} (h : isW a) : SH (a + 3) = (14, 2) := by rcases h with rfl | rfl <;> rfl
theorem isW.s4 {a : Nat} (h : isW a) : SH (a + 4) = (14, 2) := by rcases h with rfl | rfl <;> rfl
theorem isW.s5 {a : Nat} (h : isW a) : SH (a + 5) = (14, 2) := by rcases h with rfl | rfl <;> rfl
theorem nfault_sp {σ : Sg} {d : Nat} {c v : Int} : f_N_fault (d + 1) (zI c) (zI v) σ = rI (zI (-1000 * c - v)) σ := by
  rw [f_N_fault_eq, show (-1000 : Int32) = zI (-1000) from rfl, zI_mul, zI_sub]
theorem tfault_sp {σ : Sg} {d : Nat} {c i : Int} (ei : σ.1 5 4 = zI i) : f_Tape_fault (d + 1) (zI c) σ = rI (zI (-1000 * c - i)) σ := by
  rw [f_Tape_fault_eq, ei, show (-1000 : Int32) = zI (-1000) from rfl, zI_mul, zI_sub]
def wV (o : Int ⊕ WS) : Int := match o with
  | Sum.inl v => v
  | Sum.inr _ => 0
theorem addStep_sp {σ : Sg} {a : Nat} {W : WS} (ha : isW a) (h : CW a W σ) {d : Nat} {i k : Int} (hk : WSk i W) (ei : σ.1 5 4 = zI i) (i0 : 0 ≤ i) (i1 : i < 1000) : ∃ σ', Fr (SWo a) σ σ' ∧ f_Word_addStep (d + 2) a (zI k) σ = rI (zI (wV (wAdd W i k))) σ' ∧ ∀ W', wAdd W i k = Sum.inr W' → CW a W' σ' := by
  obtain ⟨t0, t1⟩ := wTimes_bd hk
  obtain ⟨s0, s1⟩ := hk.s
  have wd : 0 ≤ W.digit ∧ W.digit < 10 := by have := hk.d; omega
  have a5 : a ≠ 5 := by rcases ha with rfl | rfl <;> decide
  have F0 : Fr (SWo a) σ (sI σ a 7 (zI 0)) := (Fr.rf _ σ).sI _ (by simp [SWo])
  have z0 : (sI σ a 7 (zI 0)).1 a 0 = zI W.size := by rw [sI_slot _ _ _ _ (by decide)]; exact h.1
  have start : f_Word_addStep (d + 2) a (zI k) σ = if 24 < W.size + wTimes W then rI (zI (-6000 - wStart W i)) (sI σ a 7 (zI 0)) else f_Word_addStep_34 (d + 1) a (zI k) (.int (zI (wStart W i))) (zI (wTimes W)) (zI 0) (sI σ a 7 (zI 0)) := by
    rw [f_Word_addStep_eq, gdK_of ha.s0, startHere_sp ha h ei i0 i1 wd, cI_rI, gdK_of ha.s0, timesHere_sp ha h wd, cI_rI, gfI_of ha.s0, z0, zI_add, show (24 : Int32) = zI 24 from zI_lit 24]
    by_cases q : 24 < W.size + wTimes W
    · rw [if_pos (by rw [zI_le (by omega) (by omega)]; exact q), if_pos q, show (6 : Int32) = zI 6 from zI_lit 6, nfault_sp, cI_rI]; rfl
    · rw [if_neg (by rw [zI_le (by omega) (by omega)]; exact q), if_neg q, zI_0]
  rw [start]
  by_cases q : 24 < W.size + wTimes W
  · have e : wAdd W i k = Sum.inl (-6000 - wStart W i) := if_pos q
    refine ⟨_, F0, by rw [if_pos q, e]; rfl, fun W' e' => ?_⟩
    rw [e] at e'; cases e'
  · have e : wAdd W i k = Sum.inr (WS.mk (W.size + wTimes W) W.op 0 false (fun x => if x < W.size then W.st x else k) (fun x => if x < W.size then W.pl x else i) W.oa W.ot W.os) := if_neg q
    rw [if_neg q, e]
    have loop : ∀ (n : Nat) (j : Int) (τ : Sg), j + n = wTimes W → 0 ≤ j → Fr (SWo a) σ τ → τ.1 a 0 = zI (W.size + j) → τ.1 a 3 = zI W.op → τ.1 a 7 = zI 0 → (∀ x, 0 ≤ x → x < W.size + j → τ.1 (a + 1) x.toNat = zI (if x < W.size then W.st x else k) ∧ τ.1 (a + 2) x.toNat = zI (if x < W.size then W.pl x else i)) → (∀ x, 0 ≤ x → x < W.op → τ.1 (a + 3) x.toNat = zI (W.oa x) ∧ τ.1 (a + 4) x.toNat = zI (W.ot x) ∧ τ.1 (a + 5) x.toNat = zI (W.os x)) →
        ∃ σ', Fr (SWo a) σ σ' ∧ f_Word_addStep_34 (d + 1) a (zI k) (.int (zI (wStart W i))) (zI (wTimes W)) (zI j) τ = rI (zI 0) σ' ∧ CW a (WS.mk (W.size + wTimes W) W.op 0 false (fun x => if x < W.size then W.st x else k) (fun x => if x < W.size then W.pl x else i) W.oa W.ot W.os) σ' := by
      intro n
      induction n with
      | zero =>
        intro j τ hj j0 F e0 e3 e7 ex ey
        have ej : j = wTimes W := by omega
        refine ⟨sI τ a 8 (zI 0), F.sI _ (by simp [SWo]), ?_, ?_⟩
        · rw [f_Word_addStep_34_eq, if_neg (by rw [zI_le (by omega) (by omega)]; omega), zI_0, pfZ_0 ha.s0]
        · subst ej
          refine ⟨by rw [sI_slot _ _ _ _ (by decide)]; exact e0, by rw [sI_slot _ _ _ _ (by decide)]; exact e3, by rw [sI_slot _ _ _ _ (by decide)]; exact e7, sI_same _ _ _ _, fun x x0 x1 => ?_, fun x x0 x1 => ?_⟩
          · rw [sI_row _ _ _ _ _ (by omega), sI_row _ _ _ _ _ (by omega)]; exact ex x x0 x1
          · rw [sI_row _ _ _ _ _ (by omega), sI_row _ _ _ _ _ (by omega), sI_row _ _ _ _ _ (by omega)]; exact ey x x0 x1
      | succ n ih =>
        intro j τ hj j0 F e0 e3 e7 ex ey
        have e5 : τ.1 5 4 = zI i := (F.2 _ _ (by simp only [SWo]; rcases ha with rfl | rfl <;> rfl)).trans ei
        have b : 0 ≤ W.size + j ∧ W.size + j < 24 := by omega
        have stp : f_Word_addStep_34 (d + 1) a (zI k) (.int (zI (wStart W i))) (zI (wTimes W)) (zI j) τ = f_Word_addStep_34 (d + 1) a (zI k) (.int (zI (wStart W i))) (zI (wTimes W)) (zI (j + 1)) (sI (sI (sI τ (a + 1) (W.size + j).toNat (zI k)) a 0 (zI (W.size + j + 1))) (a + 2) (W.size + j).toNat (zI i)) := by
          rw [f_Word_addStep_34_eq, if_pos (by rw [zI_le (by omega) (by omega)]; omega), gfS_of ha.s0, ofs_9_1, gfI_of ha.s0, e0, stI_of ha.s1 b.1 b.2 (by omega), gfS_of ha.s0, ofs_9_2, gfI_of ha.s0, sI_row _ _ _ _ _ (by omega), e0, pfI_of ha.s0, show (1 : Int32) = zI 1 from zI_lit 1, zI_add, zI_add, stI_of ha.s2 b.1 b.2 (by omega), sI_row _ _ _ _ _ (Ne.symm a5), sI_row _ _ _ _ _ (by rcases ha with rfl | rfl <;> decide), e5]
        rw [stp]
        refine ih (j + 1) _ (by omega) (by omega) (((F.sI _ (by simp [SWo])).sI _ (by simp [SWo])).sI _ (by simp [SWo])) ?_ ?_ ?_ (fun x x0 x1 => ?_) fun x x0 x1 => ?_
        · rw [sI_row _ _ _ _ _ (by omega), sI_same, Int.add_assoc]
        · rw [sI_row _ _ _ _ _ (by omega), sI_slot _ _ _ _ (by decide), sI_row _ _ _ _ _ (by omega)]; exact e3
        · rw [sI_row _ _ _ _ _ (by omega), sI_slot _ _ _ _ (by decide), sI_row _ _ _ _ _ (by omega)]; exact e7
        · by_cases z : x = W.size + j
          · subst z
            rw [sI_row _ _ _ _ _ (by omega), sI_row _ _ _ _ _ (by omega), sI_same, sI_same, if_neg (by omega), if_neg (by omega)]
            exact ⟨rfl, rfl⟩
          · rw [sI_row _ _ _ _ _ (by omega), sI_row _ _ _ _ _ (by omega), sI_slot _ _ _ _ (by omega), sI_slot _ _ _ _ (by omega), sI_row _ _ _ _ _ (by omega), sI_row _ _ _ _ _ (by omega)]
            exact ex x x0 (by omega)
        · rw [sI_row _ _ _ _ _ (by omega), sI_row _ _ _ _ _ (by omega), sI_row _ _ _ _ _ (by omega), sI_row _ _ _ _ _ (by omega), sI_row _ _ _ _ _ (by omega), sI_row _ _ _ _ _ (by omega), sI_row _ _ _ _ _ (by omega), sI_row _ _ _ _ _ (by omega), sI_row _ _ _ _ _ (by omega)]
          exact ey x x0 x1
    obtain ⟨σ', F', eq, hC⟩ := loop (wTimes W).toNat 0 (sI σ a 7 (zI 0)) (by omega) (by decide) F0 (by rw [z0, Int.add_zero]) (by rw [sI_slot _ _ _ _ (by decide)]; exact h.2.1) (sI_same _ _ _ _) (fun x x0 x1 => by
      rw [sI_row _ _ _ _ _ (by omega), sI_row _ _ _ _ _ (by omega), if_pos (by omega), if_pos (by omega)]; exact h.2.2.2.2.1 x x0 (by omega)) fun x x0 x1 => by
      rw [sI_row _ _ _ _ _ (by omega), sI_row _ _ _ _ _ (by omega), sI_row _ _ _ _ _ (by omega)]; exact h.2.2.2.2.2 x x0 x1
    exact ⟨σ', F', eq, fun W' e' => by obtain rfl := Sum.inr.inj e'; exact hC⟩
theorem openRound_sp {σ : Sg} {a : Nat} {W : WS} (ha : isW a) (h : CW a W σ) {d : Nat} {i : Int} (hk : WSk i W) (ei : σ.1 5 4 = zI i) (i0 : 0 ≤ i) (i1 : i < 1000) : ∃ σ', Fr (SWo a) σ σ' ∧ f_Word_openRound (d + 2) a σ = rI (zI (wV (wOpen W i))) σ' ∧ ∀ W', wOpen W i = Sum.inr W' → CW a W' σ' := by
  obtain ⟨s0, s1⟩ := hk.s
  obtain ⟨o0, o1⟩ := hk.o
  have wd : 0 ≤ W.digit ∧ W.digit < 10 := by have := hk.d; omega
  have a5 : a ≠ 5 := by rcases ha with rfl | rfl <;> decide
  by_cases q : W.op = 2
  · have e : wOpen W i = Sum.inl (-5000 - i) := if_pos q
    refine ⟨σ, Fr.rf _ _, ?_, fun W' e' => by rw [e] at e'; cases e'⟩
    rw [e, f_Word_openRound_eq, gfI_of ha.s0, h.2.1, show (2 : Int32) = zI 2 from zI_lit 2, if_pos (congrArg zI q), show (5 : Int32) = zI 5 from zI_lit 5, tfault_sp ei, cI_rI]; rfl
  · have e : wOpen W i = Sum.inr (WS.mk W.size (W.op + 1) 0 true W.st W.pl (fun x => if x = W.op then wStart W i else W.oa x) (fun x => if x = W.op then wTimes W else W.ot x) (fun x => if x = W.op then W.size else W.os x)) := if_neg q
    have h' : CW a W (sI σ (a + 3) W.op.toNat (zI (wStart W i))) := by
      obtain ⟨h1, h2, h3, h4, h5, h6⟩ := h
      refine ⟨by rw [sI_row _ _ _ _ _ (by omega)]; exact h1, by rw [sI_row _ _ _ _ _ (by omega)]; exact h2, by rw [sI_row _ _ _ _ _ (by omega)]; exact h3, by rw [sI_row _ _ _ _ _ (by omega)]; exact h4, fun x x0 x1 => ?_, fun x x0 x1 => ?_⟩
      · rw [sI_row _ _ _ _ _ (by omega), sI_row _ _ _ _ _ (by omega)]; exact h5 x x0 x1
      · rw [sI_slot _ _ _ _ (by omega), sI_row _ _ _ _ _ (by omega), sI_row _ _ _ _ _ (by omega)]; exact h6 x x0 x1
    refine ⟨sI (sI (sI (sI (sI (sI σ (a + 3) W.op.toNat (zI (wStart W i))) a 7 (zI 0)) (a + 4) W.op.toNat (zI (wTimes W))) (a + 5) W.op.toNat (zI W.size)) a 3 (zI (W.op + 1))) a 8 (zI 1), ((((((Fr.rf _ σ).sI _ (by simp [SWo])).sI _ (by simp [SWo])).sI _ (by simp [SWo])).sI _ (by simp [SWo])).sI _ (by simp [SWo])).sI _ (by simp [SWo]), ?_, fun W' e' => ?_⟩
    · have A : ∀ (b : Nat) (k : Nat) (v : Int32) (τ : Sg), b ≠ a → (sI τ b k v).1 a 3 = τ.1 a 3 ∧ (sI τ b k v).1 a 0 = τ.1 a 0 := fun b k v τ hb => ⟨sI_row _ _ _ _ _ (Ne.symm hb), sI_row _ _ _ _ _ (Ne.symm hb)⟩
      have B : ∀ (v : Int32) (τ : Sg), (sI τ a 7 v).1 a 3 = τ.1 a 3 ∧ (sI τ a 7 v).1 a 0 = τ.1 a 0 := fun v τ => ⟨sI_slot _ _ _ _ (by decide), sI_slot _ _ _ _ (by decide)⟩
      have n3 : a + 3 ≠ a := by omega
      have n4 : a + 4 ≠ a := by omega
      have n5 : a + 5 ≠ a := by omega
      rw [e, f_Word_openRound_eq, gfI_of ha.s0, h.2.1, show (2 : Int32) = zI 2 from zI_lit 2, if_neg (by rw [zI_eq (by omega) (by decide)]; exact q), gfS_of ha.s0, ofs_9_4, gfI_of ha.s0, h.2.1, gdK_of ha.s0, startHere_sp ha h ei i0 i1 wd, cI_rI, stI_of ha.s3 o0 (by omega) (by omega), gfS_of ha.s0, ofs_9_5, gfI_of ha.s0, (A _ _ _ _ n3).1, h.2.1, gdK_of ha.s0, timesHere_sp ha h' wd, cI_rI, stI_of ha.s4 o0 (by omega) (by omega), gfS_of ha.s0, ofs_9_6, gfI_of ha.s0, (A _ _ _ _ n4).1, (B _ _).1, (A _ _ _ _ n3).1, h.2.1, gfI_of ha.s0, (A _ _ _ _ n4).2, (B _ _).2, (A _ _ _ _ n3).2, h.1, stI_of ha.s5 o0 (by omega) (by omega), gfI_of ha.s0, (A _ _ _ _ n5).1, (A _ _ _ _ n4).1, (B _ _).1, (A _ _ _ _ n3).1, h.2.1, pfI_of ha.s0, show (1 : Int32) = zI 1 from zI_lit 1, zI_add, pfZ_1 ha.s0]
      rfl
    · rw [e] at e'
      obtain rfl := Sum.inr.inj e'
      obtain ⟨h1, h2, h3, h4, h5, h6⟩ := h
      refine ⟨?_, ?_, ?_, sI_same _ _ _ _, fun x x0 x1 => ?_, fun x x0 x1 => ?_⟩
      · rw [sI_slot _ _ _ _ (by decide), sI_slot _ _ _ _ (by decide), sI_row _ _ _ _ _ (by omega), sI_row _ _ _ _ _ (by omega), sI_slot _ _ _ _ (by decide), sI_row _ _ _ _ _ (by omega)]; exact h1
      · rw [sI_slot _ _ _ _ (by decide), sI_same]; rfl
      · rw [sI_slot _ _ _ _ (by decide), sI_slot _ _ _ _ (by decide), sI_row _ _ _ _ _ (by omega), sI_row _ _ _ _ _ (by omega), sI_same]; rfl
      · simp only [sI_1]
        rw [if_neg (by omega), if_neg (by omega), if_neg (by omega), if_neg (by omega), if_neg (by omega), if_neg (by omega), if_neg (by omega), if_neg (by omega), if_neg (by omega), if_neg (by omega), if_neg (by omega), if_neg (by omega)]
        exact h5 x x0 x1
      · have x1 : x < W.op + 1 := x1
        show _ = zI (if x = W.op then wStart W i else W.oa x) ∧ _ = zI (if x = W.op then wTimes W else W.ot x) ∧ _ = zI (if x = W.op then W.size else W.os x)
        rw [sI_row _ _ _ _ _ (by omega), sI_row _ _ _ _ _ (by omega), sI_row _ _ _ _ _ (by omega), sI_row _ _ _ _ _ (by omega), sI_row _ _ _ _ _ (by omega), sI_row (b := a + 4) _ _ _ _ _ (by omega), sI_row (b := a + 4) _ _ _ _ _ (by omega), sI_row (b := a + 4) _ _ _ _ _ (by omega), sI_row (b := a + 5) _ _ _ _ _ (by omega), sI_row (b := a + 5) _ _ _ _ _ (by omega)]
        by_cases z : x = W.op
        · subst z
          rw [sI_same, sI_same, sI_same, if_pos rfl, if_pos rfl, if_pos rfl]
          exact ⟨rfl, rfl, rfl⟩
        · have hx := h6 x x0 (by omega)
          rw [if_neg z, if_neg z, if_neg z]
          refine ⟨?_, ?_, ?_⟩
          · rw [sI_slot _ _ _ _ (by omega)]; exact hx.1
          · rw [sI_slot _ _ _ _ (by omega), sI_row _ _ _ _ _ (by omega), sI_row _ _ _ _ _ (by omega)]; exact hx.2.1
          · rw [sI_slot _ _ _ _ (by omega), sI_row _ _ _ _ _ (by omega), sI_row _ _ _ _ _ (by omega), sI_row _ _ _ _ _ (by omega)]; exact hx.2.2
