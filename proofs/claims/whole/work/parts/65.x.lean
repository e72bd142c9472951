/-! where a word leads -/
def ldF (G : Int → Int → Int → Int) (st : Int → Int) : Nat → Int → Int → Int → Int
  | 0, _, _, x => x
  | k + 1, i, s, x => ldF G st k (i + 1) (st i % 2) (G (st i) s x)
theorem ldF_lt {n : Int} {G : Int → Int → Int → Int} {st : Int → Int} (hG : ∀ k s x, 0 ≤ x → x < n → 0 ≤ G k s x ∧ G k s x < n) : ∀ (k : Nat) (i s x : Int), 0 ≤ x → x < n → 0 ≤ ldF G st k i s x ∧ ldF G st k i s x < n
  | 0, _, _, _, h0, h1 => ⟨h0, h1⟩
  | k + 1, i, s, x, h0, h1 => ldF_lt hG k _ _ _ (hG _ _ _ h0 h1).1 (hG _ _ _ h0 h1).2
def gOf (σ : Sg) (r : Nat) : Int → Int → Int → Int := goF (rd σ (r + 1)) (rd σ (r + 2)) (rd σ (r + 3)) (rd σ (r + 4))
theorem gOf_lt {σ : Sg} {r : Nat} {n : Int} (h : RuleAt σ r n) : ∀ k s x, 0 ≤ x → x < n → 0 ≤ gOf σ r k s x ∧ gOf σ r k s x < n := fun _ _ _ h0 h1 => goF_lt h.2.2 h0 h1
theorem lead_sp {σ : Sg} {a r d : Nat} {n : Int} {W : WS} (ha : isW a) (c : CWo a W σ) (ok : WOk W) (hr : RuleAt σ r n) {x s : Int} (x0 : 0 ≤ x) (x1 : x < n) (s01 : s = 0 ∨ s = 1) : f_Word_lead (d + 2) a r (zI x) (zI s) σ = rI (zI (ldF (gOf σ r) W.st W.size.toNat 0 s x)) σ := by
  obtain ⟨s0, s1⟩ := ok.1
  have main : ∀ (k : Nat) (i s x : Int) (v w : Value), i + k = W.size → 0 ≤ i → (s = 0 ∨ s = 1) → 0 ≤ x → x < n → f_Word_lead_9 (d + 1) a r v w (zI s) (zI x) (zI i) σ = rI (zI (ldF (gOf σ r) W.st k i s x)) σ := by
    intro k
    induction k with
    | zero =>
      intro i s x v w hi i0 hs x0 x1
      rw [f_Word_lead_9_eq, gfI_of ha.s0, c.1, if_neg (by rw [zI_le (by omega) (by omega)]; omega)]; rfl
    | succ k ih =>
      intro i s x v w hi i0 hs x0 x1
      obtain ⟨b1, b2, -⟩ := ok.2 i i0 (by omega)
      have e1 := (c.2 i i0 (by omega)).1
      have g := gOf_lt hr (W.st i) s x x0 x1
      rw [f_Word_lead_9_eq, gfI_of ha.s0, c.1, if_pos (by rw [zI_le (by omega) (by omega)]; omega), gfS_of ha.s0, ofs_9_1, ldi_of ha.s1 i0 (by omega) (by omega), e1, gdK_of hr.1.s0, go_sp hr b1 b2 (by omega) (by omega) x0 x1, cI_rI, gfS_of ha.s0, ofs_9_1, ldi_of ha.s1 i0 (by omega) (by omega), e1, sortBehind_sp b1 b2, cI_rI, show (1 : Int32) = zI 1 from zI_lit 1, zI_add]
      exact ih (i + 1) (W.st i % 2) (gOf σ r (W.st i) s x) _ _ (by omega) (by omega) (by omega) g.1 g.2
  rw [f_Word_lead_eq, zI_0]
  exact main W.size.toNat 0 s x _ _ (by omega) (by decide) s01 x0 x1
theorem leadM_sp {σ : Sg} {d : Nat} {n : Int} {W : WS} {A B C M : Int → Int} (c : MWo W σ) (ok : WOk W) (hr : MR4 σ n A B C M) (hG : ∀ k s x, 0 ≤ x → x < n → 0 ≤ goF A B C M k s x ∧ goF A B C M k s x < n) {x s : Int} (x0 : 0 ≤ x) (x1 : x < n) (s01 : s = 0 ∨ s = 1) : f_M_leadsTo (d + 3) (zI x) (zI s) σ = rI (zI (ldF (goF A B C M) W.st W.size.toNat 0 s x)) σ := by
  obtain ⟨s0, s1⟩ := ok.1
  have main : ∀ (k : Nat) (i s x : Int) (v w : Value), i + k = W.size → 0 ≤ i → (s = 0 ∨ s = 1) → 0 ≤ x → x < n → f_M_leadsTo_8 (d + 2) v w (zI x) (zI s) (zI i) σ = rI (zI (ldF (goF A B C M) W.st k i s x)) σ := by
    intro k
    induction k with
    | zero =>
      intro i s x v w hi i0 hs x0 x1
      rw [f_M_leadsTo_8_eq, c.1, if_neg (by rw [zI_le (by omega) (by omega)]; omega)]; rfl
    | succ k ih =>
      intro i s x v w hi i0 hs x0 x1
      obtain ⟨b1, b2, -⟩ := ok.2 i i0 (by omega)
      have e1 := (c.2 i i0 (by omega)).1
      have g := hG (W.st i) s x x0 x1
      rw [f_M_leadsTo_8_eq, c.1, if_pos (by rw [zI_le (by omega) (by omega)]; omega), bnd_zI i0 (by omega) (by omega), ix_zI i0 (by omega), e1, nameBy_sp hr b1 b2 hs x0 x1, cI_rI, bnd_zI i0 (by omega) (by omega), e1, sortBy_sp b1 b2, cI_rI, show (1 : Int32) = zI 1 from zI_lit 1, zI_add]
      exact ih (i + 1) (W.st i % 2) (goF A B C M (W.st i) s x) _ _ (by omega) (by omega) (by omega) g.1 g.2
  rw [f_M_leadsTo_eq, zI_0]
  exact main W.size.toNat 0 s x _ _ (by omega) (by decide) s01 x0 x1
theorem sortEnd_sp {σ : Sg} {a d : Nat} {W : WS} (ha : isW a) (c : CWo a W σ) (ok : WOk W) (w1 : 1 ≤ W.size) : f_Word_sortAtEnd (d + 2) a σ = rI (zI (W.st (W.size - 1) % 2)) σ := by
  obtain ⟨s0, s1⟩ := ok.1
  obtain ⟨b1, b2, -⟩ := ok.2 (W.size - 1) (by omega) (by omega)
  rw [f_Word_sortAtEnd_eq, gfI_of ha.s0, c.1, zI_0, if_pos (by rw [zI_le (by decide) (by omega)]; omega), gfS_of ha.s0, ofs_9_1, gfI_of ha.s0, c.1, show (1 : Int32) = zI 1 from zI_lit 1, zI_sub, ldi_of ha.s1 (by omega) (by omega) (by omega), (c.2 (W.size - 1) (by omega) (by omega)).1, sortBehind_sp b1 b2, cI_rI]
theorem sortEndM_sp {σ : Sg} {d : Nat} {s : Int} {W : WS} (c : MWo W σ) (ok : WOk W) (w1 : 1 ≤ W.size) : f_M_sortBehind (d + 2) (zI s) σ = rI (zI (W.st (W.size - 1) % 2)) σ := by
  obtain ⟨s0, s1⟩ := ok.1
  obtain ⟨b1, b2, -⟩ := ok.2 (W.size - 1) (by omega) (by omega)
  rw [f_M_sortBehind_eq, c.1, zI_0, if_neg (by rw [zI_eq (by omega) (by decide)]; omega), show (1 : Int32) = zI 1 from zI_lit 1, zI_sub, bnd_zI (by omega) (by omega) (by omega), ix_zI (by omega) (by omega), (c.2 (W.size - 1) (by omega) (by omega)).1, sortBy_sp b1 b2, cI_rI]
/-- a word read to its end has a step -/
theorem wByte_grow {i c : Int} {W W' : WS} (h : WSk i W) (e : wByte W i c = Sum.inr W') (g : W.due = true ∨ W.digit ≠ 0 ∨ 1 ≤ W.size) : W'.due = true ∨ W'.digit ≠ 0 ∨ 1 ≤ W'.size := by
  have s0 := h.s
  have t0 := wTimes_bd h
  unfold wByte at e
  split at e
  · unfold wOpen at e
    split at e
    · cases e
    · obtain rfl := (Sum.inr.inj e).symm; exact Or.inl rfl
  split at e
  · split at e
    · cases e
    · rename_i q
      have o := h.o
      have o1 : 1 ≤ W.op := by
        have : ¬ W.op = 0 := fun z => q (Or.inl z)
        omega
      obtain ⟨l0, l1, l2, l3⟩ := wLast_bd h o1
      unfold wPop at e
      split at e
      · cases e
      · obtain rfl := (Sum.inr.inj e).symm
        rcases g with g | g | g
        · exact Or.inl g
        · exact Or.inr (Or.inl g)
        · exact Or.inr (Or.inr (by show 1 ≤ wLast W; omega))
  split at e
  · rename_i q
    obtain rfl := (Sum.inr.inj e).symm
    exact Or.inr (Or.inl (by show c - 48 ≠ 0; omega))
  split at e
  · cases e
  · unfold wAdd at e
    split at e
    · cases e
    · obtain rfl := (Sum.inr.inj e).symm
      exact Or.inr (Or.inr (by show 1 ≤ W.size + wTimes W; omega))
theorem wRun_size {T : Int → Int} {n : Int} : ∀ (k : Nat) (i : Int) (W W' : WS), 0 ≤ i → WSk i W → (W.due = true ∨ W.digit ≠ 0 ∨ 1 ≤ W.size) → wRun T n k i W = Sum.inr W' → 1 ≤ W'.size
  | 0, i, W, W', i0, h, g, e => by
    unfold wRun at e
    split at e
    · cases e
    · rename_i q
      obtain rfl := Sum.inr.inj e
      rcases g with g | g | g
      · exact absurd (Or.inr (Or.inl g)) q
      · exact absurd (Or.inl g) q
      · exact g
  | k + 1, i, W, W', i0, h, g, e => by
    cases q : wByte W i (T i) with
    | inl u => rw [wRun_b q] at e; cases e
    | inr W1 => rw [wRun_s q] at e; exact wRun_size k (i + 1) W1 W' (by omega) (wByte_k h i0 q) (wByte_grow h q g) e
theorem wRun0_size {T : Int → Int} {n : Int} {k : Nat} {W' : WS} (e : wRun T n k 0 W0 = Sum.inr W') : 1 ≤ W'.size := wRun_size k 0 W0 W' (by decide) W0_k (Or.inl rfl) e
