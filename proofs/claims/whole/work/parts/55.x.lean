def wNo (W : WS) : Nat → Int → Int → Int
  | 0, _, _ => 0
  | k + 1, i, s => if canB (W.st i) s = true then wNo W k (i + 1) (W.st i % 2) else -7000 - W.pl i
def WOk (W : WS) : Prop := (0 ≤ W.size ∧ W.size ≤ 24) ∧ ∀ x, 0 ≤ x → x < W.size → 0 ≤ W.st x ∧ W.st x < 8 ∧ 0 ≤ W.pl x ∧ W.pl x < 1000
def CWo (a : Nat) (W : WS) (σ : Sg) : Prop := σ.1 a 0 = zI W.size ∧ ∀ x, 0 ≤ x → x < W.size → σ.1 (a + 1) x.toNat = zI (W.st x) ∧ σ.1 (a + 2) x.toNat = zI (W.pl x)
theorem noSpouse_sp {σ : Sg} {a : Nat} {W : WS} (ha : isW a) (h : CWo a W σ) (hk : WOk W) {d : Nat} {v : Int32} {s : Int} (s01 : s = 0 ∨ s = 1) : f_Word_firstNoSpouse (d + 2) a (zI s) σ = rI (zI (wNo W W.size.toNat 0 s)) σ := by
  obtain ⟨s0, s1⟩ := hk.1
  have main : ∀ (k : Nat) (i s : Int) (v : Value), i + k = W.size → 0 ≤ i → (s = 0 ∨ s = 1) → f_Word_firstNoSpouse_4 (d + 1) a v (zI s) (zI i) σ = rI (zI (wNo W k i s)) σ := by
    intro k
    induction k with
    | zero =>
      intro i s v hi i0 hs
      rw [f_Word_firstNoSpouse_4_eq, gfI_of ha.s0, h.1, if_neg (by rw [zI_le (by omega) (by omega)]; omega)]
      rfl
    | succ k ih =>
      intro i s v hi i0 hs
      obtain ⟨b1, b2, b3, b4⟩ := hk.2 i i0 (by omega)
      obtain ⟨e1, e2⟩ := h.2 i i0 (by omega)
      unfold wNo
      rw [f_Word_firstNoSpouse_4_eq, gfI_of ha.s0, h.1, if_pos (by rw [zI_le (by omega) (by omega)]; omega), gfS_of ha.s0, ofs_9_1, ldi_of ha.s1 i0 (by omega) (by omega), e1, canStep_sp b1 b2 hs, cI_rI]
      cases q : canB (W.st i) s with
      | true =>
        rw [bz_tt, if_neg (by decide), if_pos rfl, gfS_of ha.s0, ofs_9_1, ldi_of ha.s1 i0 (by omega) (by omega), e1, sortBehind_sp b1 b2, cI_rI, show (1 : Int32) = zI 1 from zI_lit 1, zI_add]
        exact ih (i + 1) (W.st i % 2) _ (by omega) (by omega) (by omega)
      | false =>
        rw [bz_ff, if_pos (by decide), if_neg Bool.false_ne_true, gfS_of ha.s0, ofs_9_2, ldi_of ha.s2 i0 (by omega) (by omega), e2, show (7 : Int32) = zI 7 from zI_lit 7, nfault_sp, cI_rI]
        rfl
  rw [f_Word_firstNoSpouse_eq, zI_0]
  exact main W.size.toNat 0 s _ (by omega) (by decide) s01
/-- the reference's word -/
def MWo (W : WS) (σ : Sg) : Prop := σ.1 102 38 = zI W.size ∧ ∀ x, 0 ≤ x → x < W.size → σ.1 124 x.toNat = zI (W.st x) ∧ σ.1 125 x.toNat = zI (W.pl x)
theorem noSpouseM_sp {σ : Sg} {W : WS} (h : MWo W σ) (hk : WOk W) {d : Nat} {s : Int} (s01 : s = 0 ∨ s = 1) : ∀ (x1 x2 x3 x4 : Value), f_M_readsWord_75 (d + 2) x1 x2 x3 x4 (zI s) (zI 0) σ = rI (zI (wNo W W.size.toNat 0 s)) σ := by
  obtain ⟨s0, s1⟩ := hk.1
  have main : ∀ (k : Nat) (i s : Int) (x1 x2 x3 x4 : Value), i + k = W.size → 0 ≤ i → (s = 0 ∨ s = 1) → f_M_readsWord_75 (d + 2) x1 x2 x3 x4 (zI s) (zI i) σ = rI (zI (wNo W k i s)) σ := by
    intro k
    induction k with
    | zero =>
      intro i s x1 x2 x3 x4 hi i0 hs
      rw [f_M_readsWord_75_eq, h.1, if_neg (by rw [zI_le (by omega) (by omega)]; omega)]
      rfl
    | succ k ih =>
      intro i s x1 x2 x3 x4 hi i0 hs
      obtain ⟨b1, b2, b3, b4⟩ := hk.2 i i0 (by omega)
      obtain ⟨e1, e2⟩ := h.2 i i0 (by omega)
      unfold wNo
      rw [f_M_readsWord_75_eq, h.1, if_pos (by rw [zI_le (by omega) (by omega)]; omega), bnd_zI i0 (by omega) (by omega), ix_zI i0 (by omega), e1, canBe_sp b1 b2 hs, cI_rI]
      cases q : canB (W.st i) s with
      | true =>
        rw [bz_tt, if_neg (by decide), if_pos rfl, bnd_zI i0 (by omega) (by omega), e1, sortBy_sp b1 b2, cI_rI, show (1 : Int32) = zI 1 from zI_lit 1, zI_add]
        exact ih (i + 1) (W.st i % 2) _ _ _ _ (by omega) (by omega) (by omega)
      | false =>
        rw [bz_ff, if_pos (by decide), if_neg Bool.false_ne_true, bnd_zI i0 (by omega) (by omega), e2, show (-7000 : Int32) = zI (-7000) from rfl, zI_sub]
  exact fun x1 x2 x3 x4 => main W.size.toNat 0 s x1 x2 x3 x4 (by omega) (by decide) s01
def SWr (a b k : Nat) : Bool := SWo a b k || (b == 5 && k == 4)
theorem wRead_sp {σ : Sg} {a : Nat} (ha : isW a) {d : Nat} {f n s : Int} {T : Int → Int} (ht : CT f n T σ) (f0 : 0 ≤ f) (n0 : 0 ≤ n) (fn : f + n ≤ 260) (tb : ∀ j, 0 ≤ j → j < n → 0 ≤ T j ∧ T j < 256) : ∀ (k : Nat) (i : Int) (W : WS) (τ : Sg) (v : Value), i + k = n → 0 ≤ i → Fr (SWr a) σ τ → CW a W τ → WSk i W → τ.1 5 4 = zI i →
    ∃ σ', Fr (SWr a) σ σ' ∧ (∀ u, wRun T n k i W = Sum.inl u → u < 0 ∧ -10000 < u ∧ f_Word_read_20 (d + 3) a (zI s) v τ = rI (zI u) σ') ∧ ∀ W', wRun T n k i W = Sum.inr W' → f_Word_read_20 (d + 3) a (zI s) v τ = (cI (f_Word_firstNoSpouse (d + 3) a (zI s) σ') fun v10 σ9 => rI v10 σ9) ∧ CW a W' σ' ∧ WSk n W' := by
  intro k
  induction k with
  | zero =>
    intro i W τ v hi i0 F h hk ei
    have en : i = n := by omega
    subst en
    have wd : 0 ≤ W.digit ∧ W.digit < 10 := by have := hk.d; omega
    obtain ⟨o0, o1⟩ := hk.o
    have ht' := ht.fr F (by simp [SWr, SWo]; rcases ha with rfl | rfl <;> decide) (by simp [SWr, SWo]; rcases ha with rfl | rfl <;> decide) (fun k => by simp [SWr, SWo]; rcases ha with rfl | rfl <;> decide)
    obtain ⟨h1, h2, h3, h4, h5, h6⟩ := id h
    have c7 : (zI W.digit = zI 0) = (W.digit = 0) := zI_eq (by omega) (by decide)
    have st : f_Word_read_20 (d + 3) a (zI s) v τ = (if W.digit ≠ 0 ∨ W.due = true ∨ 0 < W.op then rI (zI (-1000 - i)) τ else (cI (f_Word_firstNoSpouse (d + 3) a (zI s) τ) fun v10 σ9 => rI v10 σ9)) := by
      rw [f_Word_read_20_eq, ei, ht'.2.1, if_neg Int32.lt_irrefl, gfI_of ha.s0, h3, zI_0, show (1 : Int32) = zI 1 from zI_lit 1]
      by_cases q7 : W.digit = 0
      · rw [if_pos (c7.mpr q7), gfI_of ha.s0, h4]
        cases u : W.due with
        | true => rw [bz_tt, if_neg (by decide), if_pos (Or.inr (Or.inl rfl)), tfault_sp ei, cI_rI]; rfl
        | false =>
          rw [bz_ff, if_pos (by decide), gfI_of ha.s0, h2]
          by_cases q : 0 < W.op
          · rw [if_pos (by rw [zI_le (by decide) (by omega)]; exact q), if_pos (Or.inr (Or.inr q)), tfault_sp ei, cI_rI]; rfl
          · rw [if_neg (by rw [zI_le (by decide) (by omega)]; exact q), if_neg (by
              rintro (z | z | z)
              · exact z q7
              · cases z
              · exact q z), gdK_of ha.s0]
      · rw [if_neg (fun z => q7 (c7.mp z)), if_pos (Or.inl q7), tfault_sp ei, cI_rI]; rfl
    refine ⟨τ, F, fun u e => ?_, fun W' e => ?_⟩
    · unfold wRun at e
      split at e
      · rename_i q
        obtain rfl := Sum.inl.inj e
        exact ⟨by omega, by omega, by rw [st, if_pos q]⟩
      · cases e
    · unfold wRun at e
      split at e
      · cases e
      · rename_i q
        obtain rfl := Sum.inr.inj e
        exact ⟨by rw [st, if_neg q], h, hk⟩
  | succ k ih =>
    intro i W τ v hi i0 F h hk ei
    have ht' := ht.fr F (by simp [SWr, SWo]; rcases ha with rfl | rfl <;> decide) (by simp [SWr, SWo]; rcases ha with rfl | rfl <;> decide) (fun k => by simp [SWr, SWo]; rcases ha with rfl | rfl <;> decide)
    obtain ⟨σ1, F1, e1, hW⟩ := readByte_sp ha h (d := d) hk ht' ei f0 fn i0 (by omega) (tb i i0 (by omega))
    have F2 : Fr (SWr a) σ σ1 := F.tr (F1.mono fun b k e => by simp only [SWr, Bool.or_eq_false_iff] at e; exact e.1)
    have st : f_Word_read_20 (d + 3) a (zI s) v τ = (if zI (wV (wByte W i (T i))) = 0 then f_Word_read_20 (d + 3) a (zI s) (.int (zI (wV (wByte W i (T i))))) (sI σ1 5 4 (σ1.1 5 4 + 1)) else rI (zI (wV (wByte W i (T i)))) σ1) := by
      rw [f_Word_read_20_eq, ei, ht'.2.1, if_pos (by rw [zI_le (by omega) (by omega)]; omega), gdK_of ha.s0, e1, cI_rI]
    have e5 : σ1.1 5 4 = zI i := (F1.2 _ _ (by simp [SWo]; rcases ha with rfl | rfl <;> decide)).trans ei
    cases q : wByte W i (T i) with
    | inl u =>
      have u0 := wByte_v hk i0 q
      have u1 := wByte_lo hk i0 (by omega) q
      have er : wRun T n (k + 1) i W = Sum.inl u := by unfold wRun; rw [q]
      refine ⟨σ1, F2, fun u' e => ?_, fun W' e => by rw [er] at e; cases e⟩
      rw [er] at e
      obtain rfl := Sum.inl.inj e
      refine ⟨u0, u1, ?_⟩
      rw [st, q]
      show (if zI u = 0 then _ else rI (zI u) σ1) = _
      rw [if_neg (by rw [zI_0, zI_eq (by omega) (by decide)]; omega)]
    | inr W1 =>
      have er : wRun T n (k + 1) i W = wRun T n k (i + 1) W1 := by
        show (match wByte W i (T i) with
          | Sum.inl v => Sum.inl v
          | Sum.inr W' => wRun T n k (i + 1) W') = _
        rw [q]
      have C1 := hW W1 q
      have C2 : CW a W1 (sI σ1 5 4 (zI (i + 1))) := by
        have n0 : ∀ b, (b = a ∨ b = a + 1 ∨ b = a + 2 ∨ b = a + 3 ∨ b = a + 4 ∨ b = a + 5) → ∀ j, (sI σ1 5 4 (zI (i + 1))).1 b j = σ1.1 b j := fun b hb j => sI_row _ _ _ _ _ (by rcases ha with rfl | rfl <;> omega)
        obtain ⟨h1, h2, h3, h4, h5, h6⟩ := C1
        refine ⟨by rw [n0 a (by omega)]; exact h1, by rw [n0 a (by omega)]; exact h2, by rw [n0 a (by omega)]; exact h3, by rw [n0 a (by omega)]; exact h4, fun x x0 x1 => ?_, fun x x0 x1 => ?_⟩
        · rw [n0 (a + 1) (by omega), n0 (a + 2) (by omega)]; exact h5 x x0 x1
        · rw [n0 (a + 3) (by omega), n0 (a + 4) (by omega), n0 (a + 5) (by omega)]; exact h6 x x0 x1
      obtain ⟨σ', F', hb, ho⟩ := ih (i + 1) W1 (sI σ1 5 4 (zI (i + 1))) (.int (zI 0)) (by omega) (by omega) (F2.sI _ (by simp [SWr])) C2 (wByte_k hk i0 q) (sI_same _ _ _ _)
      have st' : f_Word_read_20 (d + 3) a (zI s) v τ = f_Word_read_20 (d + 3) a (zI s) (.int (zI 0)) (sI σ1 5 4 (zI (i + 1))) := by
        rw [st, q]
        show (if zI 0 = 0 then f_Word_read_20 (d + 3) a (zI s) (.int (zI 0)) (sI σ1 5 4 (σ1.1 5 4 + 1)) else _) = _
        rw [if_pos (by decide), e5, show (1 : Int32) = zI 1 from zI_lit 1, zI_add]
      rw [er, st']
      exact ⟨σ', F', hb, ho⟩
