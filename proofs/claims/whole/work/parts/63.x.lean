def wRes (T : Int → Int) (n s : Int) : Int := match wRun T n n.toNat 0 W0 with
  | Sum.inl u => u
  | Sum.inr W => wNo W W.size.toNat 0 s
theorem wNo_bd {W : WS} (h : WOk W) : ∀ (k : Nat) (i s : Int), 0 ≤ i → i + k = W.size → -10000 < wNo W k i s ∧ wNo W k i s ≤ 0
  | 0, _, _, _, _ => by unfold wNo; omega
  | k + 1, i, s, i0, e => by
    have := h.2 i i0 (by omega)
    unfold wNo
    split
    · exact wNo_bd h k (i + 1) _ (by omega) (by omega)
    · omega
theorem WSk.ok {n : Int} {W : WS} (h : WSk n W) (hn : n ≤ 260) : WOk W := ⟨h.s, fun x x0 x1 => by have := h.x x x0 x1; omega⟩
theorem wordN {σ : Sg} {a : Nat} (ha : isW a) {d : Nat} {f n s : Int} {T : Int → Int} (ht : CT f n T σ) (e4 : σ.1 5 4 = zI 0) (f0 : 0 ≤ f) (n0 : 0 ≤ n) (fn : f + n ≤ 260) (tb : ∀ j, 0 ≤ j → j < n → 0 ≤ T j ∧ T j < 256) (s01 : s = 0 ∨ s = 1) : ∃ σ', Fr (SWr a) σ σ' ∧ f_Word_read (d + 4) a (zI s) σ = rI (zI (wRes T n s)) σ' ∧ (-10000 < wRes T n s ∧ wRes T n s ≤ 0) ∧ (wRes T n s = 0 → ∃ W, wRun T n n.toNat 0 W0 = Sum.inr W ∧ CWo a W σ' ∧ WOk W) := by
  obtain ⟨σ', F, hb, ho⟩ := wordRead_sp ha (d := d) (s := s) ht e4 f0 n0 fn tb
  refine ⟨σ', F, ?_⟩
  unfold wRes
  cases e : wRun T n n.toNat 0 W0 with
  | inl u =>
    obtain ⟨u0, u1, u2⟩ := hb u e
    exact ⟨u2, ⟨u1, by show u ≤ 0; omega⟩, fun z => by have z : u = 0 := z; omega⟩
  | inr W =>
    obtain ⟨g1, g2, g3⟩ := ho W e
    have hk := g3.ok (by omega)
    have c : CWo a W σ' := ⟨g2.1, g2.2.2.2.2.1⟩
    refine ⟨?_, wNo_bd hk _ 0 s (by decide) (by have := hk.1; omega), fun _ => ⟨W, rfl, c, hk⟩⟩
    rw [g1, noSpouse_sp (v := 0) ha c hk s01, cI_rI]
theorem wordM {σ : Sg} {d : Nat} {f n s : Int} {T : Int → Int} (ht : MT f n T σ) (f0 : 0 ≤ f) (n0 : 0 ≤ n) (fn : f + n ≤ 260) (tb : ∀ j, 0 ≤ j → j < n → 0 ≤ T j ∧ T j < 256) (s01 : s = 0 ∨ s = 1) (nz : ∀ u, wRun T n n.toNat 0 W0 = Sum.inl u → u ≠ 0) : ∃ σ', Fr SMw σ σ' ∧ f_M_readsWord (d + 4) (zI f) (zI n) (zI s) σ = rI (zI (wRes T n s)) σ' ∧ (wRes T n s = 0 → ∃ W, wRun T n n.toNat 0 W0 = Sum.inr W ∧ MWo W σ' ∧ WOk W) ∧ ∃ z : Int, σ'.1 102 38 = zI z ∧ 0 ≤ z ∧ z ≤ 24 := by
  obtain ⟨σ', F, hb, ho⟩ := readsWord_sp (d := d) (s := s) ht f0 n0 fn tb
  refine ⟨σ', F, ?_⟩
  have nb : ∀ u, wRun T n n.toNat 0 W0 = Sum.inl u → wRes T n s = u := fun u e => by unfold wRes; rw [e]
  cases e : wRun T n n.toNat 0 W0 with
  | inl u => exact ⟨by rw [nb u e]; exact (hb u e).1, fun z => absurd ((nb u e).symm.trans z) (nz u e), (hb u e).2⟩
  | inr W =>
    obtain ⟨g1, g2, y1, y2, y3, y4, g3⟩ := ho W e
    have hk := g2.ok (by omega)
    refine ⟨?_, fun _ => ⟨W, rfl, g1, hk⟩, W.size, g1.1, hk.1.1, hk.1.2⟩
    rw [g3, noSpouseM_sp g1 hk s01]
    unfold wRes
    rw [e]
