theorem closeRound_sp {σ : Sg} {a : Nat} {W : WS} (ha : isW a) (h : CW a W σ) {d : Nat} {i : Int} (hk : WSk i W) (ei : σ.1 5 4 = zI i) (i0 : 0 ≤ i) (i1 : i < 1000) : ∃ σ', Fr (SWo a) σ σ' ∧ f_Word_closeRound (d + 2) a σ = rI (zI (wV (if W.op = 0 ∨ W.due = true ∨ W.digit ≠ 0 then Sum.inl (-1000 - i) else wPop W))) σ' ∧ ∀ W', (if W.op = 0 ∨ W.due = true ∨ W.digit ≠ 0 then Sum.inl (-1000 - i) else wPop W) = Sum.inr W' → CW a W' σ' := by
  obtain ⟨s0, s1⟩ := hk.s
  obtain ⟨o0, o1⟩ := hk.o
  have wd : 0 ≤ W.digit ∧ W.digit < 10 := by have := hk.d; omega
  have c0 : (zI W.op = zI 0) = (W.op = 0) := zI_eq (by omega) (by decide)
  have c7 : (zI W.digit = zI 0) = (W.digit = 0) := zI_eq (by omega) (by decide)
  obtain ⟨h1, h2, h3, h4, h5, h6⟩ := id h
  by_cases q : W.op = 0 ∨ W.due = true ∨ W.digit ≠ 0
  · refine ⟨σ, Fr.rf _ _, ?_, fun W' e' => by rw [if_pos q] at e'; cases e'⟩
    rw [if_pos q, f_Word_closeRound_eq, gfI_of ha.s0, h2, zI_0, show (1 : Int32) = zI 1 from zI_lit 1]
    by_cases q0 : W.op = 0
    · rw [if_pos (c0.mpr q0), tfault_sp ei, cI_rI]; rfl
    · rw [if_neg (fun z => q0 (c0.mp z)), gfI_of ha.s0, h4]
      cases u : W.due with
      | true => rw [bz_tt, if_neg (by decide), tfault_sp ei, cI_rI]; rfl
      | false =>
        rw [bz_ff, if_pos (by decide), gfI_of ha.s0, h3, if_neg (fun z => by
          have := c7.mp z
          rcases q with q | q | q
          · exact q0 q
          · rw [u] at q; cases q
          · exact q this), tfault_sp ei, cI_rI]; rfl
  · have q0 : ¬ W.op = 0 := fun z => q (Or.inl z)
    have u : W.due = false := by
      cases z : W.due with
      | false => rfl
      | true => exact absurd (Or.inr (Or.inl z)) q
    have q7 : W.digit = 0 := Classical.not_not.mp fun z => q (Or.inr (Or.inr z))
    have op1 : 1 ≤ W.op := by omega
    obtain ⟨l0, l1, l2, l3⟩ := wLast_bd hk op1
    obtain ⟨y0, y1, y2, y3, y4, y5⟩ := hk.y (W.op - 1) (by omega) (by omega)
    have lz := hk.z u (W.op - 1) (by omega) (by omega)
    obtain ⟨ra, rt, rs⟩ := h6 (W.op - 1) (by omega) (by omega)
    have F0 : Fr (SWo a) σ (sI σ a 3 (zI (W.op - 1))) := (Fr.rf _ σ).sI _ (by simp [SWo])
    have start : f_Word_closeRound (d + 2) a σ = if 24 < wLast W then rI (zI (-6000 - W.oa (W.op - 1))) (sI σ a 3 (zI (W.op - 1))) else f_Word_closeRound_91 (d + 1) a (.int (zI (W.os (W.op - 1)))) (zI (W.size - W.os (W.op - 1))) (zI (wLast W)) (sI σ a 3 (zI (W.op - 1))) := by
      rw [f_Word_closeRound_eq, gfI_of ha.s0, h2, zI_0, if_neg (fun z => q0 (c0.mp z)), gfI_of ha.s0, h4, u, bz_ff, if_pos (by decide), gfI_of ha.s0, h3, if_pos (c7.mpr q7), gfI_of ha.s0, h2, pfI_of ha.s0, show (1 : Int32) = zI 1 from zI_lit 1, zI_sub, gfS_of ha.s0, ofs_9_6, gfI_of ha.s0, sI_same, ldi_of ha.s5 (by omega) (by omega) (by omega), sI_row _ _ _ _ _ (by omega), rs, gfI_of ha.s0, sI_slot _ _ _ _ (by decide), h1, gfS_of ha.s0, ofs_9_5, gfI_of ha.s0, sI_same, ldi_of ha.s4 (by omega) (by omega) (by omega), sI_row _ _ _ _ _ (by omega), rt, zI_sub, zI_mul, zI_add, show (24 : Int32) = zI 24 from zI_lit 24]
      show (if zI 24 < zI (wLast W) then _ else f_Word_closeRound_91 (d + 1) a (.int (zI (W.os (W.op - 1)))) (zI (W.size - W.os (W.op - 1))) (zI (wLast W)) (sI σ a 3 (zI (W.op - 1)))) = _
      by_cases g : 24 < wLast W
      · rw [if_pos (by rw [zI_le (by omega) (by omega)]; exact g), if_pos g, gfS_of ha.s0, ofs_9_4, gfI_of ha.s0, sI_same, ldi_of ha.s3 (by omega) (by omega) (by omega), sI_row _ _ _ _ _ (by omega), ra, show (6 : Int32) = zI 6 from zI_lit 6]
        rw [nfault_sp, cI_rI]; rfl
      · rw [if_neg (by rw [zI_le (by omega) (by omega)]; exact g), if_neg g]
    rw [if_neg q, start]
    by_cases g : 24 < wLast W
    · have e : wPop W = Sum.inl (-6000 - W.oa (W.op - 1)) := if_pos g
      refine ⟨_, F0, by rw [if_pos g, e]; rfl, fun W' e' => ?_⟩
      rw [e] at e'; cases e'
    · have e : wPop W = Sum.inr (WS.mk (wLast W) (W.op - 1) W.digit W.due (wrep W.st (W.os (W.op - 1)) (W.size - W.os (W.op - 1))) (wrep W.pl (W.os (W.op - 1)) (W.size - W.os (W.op - 1))) W.oa W.ot W.os) := if_neg g
      rw [if_neg g, e]
      generalize hf : W.os (W.op - 1) = f at *
      have loop : ∀ (n : Nat) (s : Int) (τ : Sg), s + n = wLast W → W.size ≤ s → Fr (SWo a) σ τ → τ.1 a 0 = zI s → τ.1 a 3 = zI (W.op - 1) → τ.1 a 7 = zI W.digit → τ.1 a 8 = bz W.due → (∀ x, 0 ≤ x → x < s → τ.1 (a + 1) x.toNat = zI (wrep W.st f (W.size - f) x) ∧ τ.1 (a + 2) x.toNat = zI (wrep W.pl f (W.size - f) x)) → (∀ x, 0 ≤ x → x < W.op → τ.1 (a + 3) x.toNat = zI (W.oa x) ∧ τ.1 (a + 4) x.toNat = zI (W.ot x) ∧ τ.1 (a + 5) x.toNat = zI (W.os x)) →
          ∃ σ', Fr (SWo a) σ σ' ∧ f_Word_closeRound_91 (d + 1) a (.int (zI f)) (zI (W.size - f)) (zI (wLast W)) τ = rI (zI 0) σ' ∧ CW a (WS.mk (wLast W) (W.op - 1) W.digit W.due (wrep W.st f (W.size - f)) (wrep W.pl f (W.size - f)) W.oa W.ot W.os) σ' := by
        intro n
        induction n with
        | zero =>
          intro s τ hs s2 F e0 e3 e7 e8 ex ey
          have es : s = wLast W := by omega
          subst es
          refine ⟨τ, F, ?_, e0, e3, e7, e8, ex, fun x x0 x1 => ey x x0 (by have x1 : x < W.op - 1 := x1; omega)⟩
          rw [f_Word_closeRound_91_eq, gfI_of ha.s0, e0, if_neg Int32.lt_irrefl, zI_0]
        | succ n ih =>
          intro s τ hs s2 F e0 e3 e7 e8 ex ey
          have b : s < 24 := by omega
          have sm : zI s - zI (W.size - f) = zI (s - (W.size - f)) := by rw [zI_sub]
          obtain ⟨r1, r2⟩ := ex (s - (W.size - f)) (by omega) (by omega)
          have p1 : wrep W.st f (W.size - f) s = wrep W.st f (W.size - f) (s - (W.size - f)) := wrep_st (by omega) (by omega)
          have p2 : wrep W.pl f (W.size - f) s = wrep W.pl f (W.size - f) (s - (W.size - f)) := wrep_st (by omega) (by omega)
          have stp : f_Word_closeRound_91 (d + 1) a (.int (zI f)) (zI (W.size - f)) (zI (wLast W)) τ = f_Word_closeRound_91 (d + 1) a (.int (zI f)) (zI (W.size - f)) (zI (wLast W)) (sI (sI (sI τ (a + 1) s.toNat (zI (wrep W.st f (W.size - f) s))) (a + 2) s.toNat (zI (wrep W.pl f (W.size - f) s))) a 0 (zI (s + 1))) := by
            rw [f_Word_closeRound_91_eq, gfI_of ha.s0, e0, if_pos (by rw [zI_le (by omega) (by omega)]; omega), gfS_of ha.s0, ofs_9_1, gfI_of ha.s0, e0, gfS_of ha.s0, ofs_9_1, gfI_of ha.s0, e0, sm, ldi_of ha.s1 (by omega) (by omega) (by omega), r1, stI_of ha.s1 (by omega) (by omega) (by omega), gfS_of ha.s0, ofs_9_2, gfI_of ha.s0, sI_row _ _ _ _ _ (by omega), e0, gfS_of ha.s0, ofs_9_2, gfI_of ha.s0, sI_row _ _ _ _ _ (by omega), e0, sm, ldi_of ha.s2 (by omega) (by omega) (by omega), sI_row _ _ _ _ _ (by omega), r2, stI_of ha.s2 (by omega) (by omega) (by omega), gfI_of ha.s0, sI_row _ _ _ _ _ (by omega), sI_row _ _ _ _ _ (by omega), e0, pfI_of ha.s0, show (1 : Int32) = zI 1 from zI_lit 1, zI_add, p1, p2]
          rw [stp]
          refine ih (s + 1) _ (by omega) (by omega) (((F.sI _ (by simp [SWo])).sI _ (by simp [SWo])).sI _ (by simp [SWo])) (sI_same _ _ _ _) ?_ ?_ ?_ (fun x x0 x1 => ?_) fun x x0 x1 => ?_
          · rw [sI_slot _ _ _ _ (by decide), sI_row _ _ _ _ _ (by omega), sI_row _ _ _ _ _ (by omega)]; exact e3
          · rw [sI_slot _ _ _ _ (by decide), sI_row _ _ _ _ _ (by omega), sI_row _ _ _ _ _ (by omega)]; exact e7
          · rw [sI_slot _ _ _ _ (by decide), sI_row _ _ _ _ _ (by omega), sI_row _ _ _ _ _ (by omega)]; exact e8
          · rw [sI_row _ _ _ _ _ (by omega), sI_row _ _ _ _ _ (by omega), sI_row (b := a + 2) _ _ _ _ _ (by omega)]
            by_cases z : x = s
            · subst z
              rw [sI_same, sI_same]; exact ⟨rfl, rfl⟩
            · rw [sI_slot _ _ _ _ (by omega), sI_slot _ _ _ _ (by omega), sI_row _ _ _ _ _ (by omega)]
              exact ex x x0 (by omega)
          · obtain ⟨z1, z2, z3⟩ := ey x x0 x1
            refine ⟨?_, ?_, ?_⟩
            · rw [sI_row _ _ _ _ _ (by omega), sI_row _ _ _ _ _ (by omega), sI_row _ _ _ _ _ (by omega)]; exact z1
            · rw [sI_row _ _ _ _ _ (by omega), sI_row _ _ _ _ _ (by omega), sI_row _ _ _ _ _ (by omega)]; exact z2
            · rw [sI_row _ _ _ _ _ (by omega), sI_row _ _ _ _ _ (by omega), sI_row _ _ _ _ _ (by omega)]; exact z3
      obtain ⟨σ', F', eq, hC⟩ := loop (wLast W - W.size).toNat W.size (sI σ a 3 (zI (W.op - 1))) (by omega) (by omega) F0 (by rw [sI_slot _ _ _ _ (by decide)]; exact h1) (sI_same _ _ _ _) (by rw [sI_slot _ _ _ _ (by decide)]; exact h3) (by rw [sI_slot _ _ _ _ (by decide)]; exact h4) (fun x x0 x1 => by
        rw [sI_row _ _ _ _ _ (by omega), sI_row _ _ _ _ _ (by omega)]
        unfold wrep
        rw [if_pos (by omega), if_pos (by omega)]; exact h5 x x0 x1) fun x x0 x1 => by
        rw [sI_row _ _ _ _ _ (by omega), sI_row _ _ _ _ _ (by omega), sI_row _ _ _ _ _ (by omega)]; exact h6 x x0 x1
      exact ⟨σ', F', eq, fun W' e' => by obtain rfl := Sum.inr.inj e'; exact hC⟩
