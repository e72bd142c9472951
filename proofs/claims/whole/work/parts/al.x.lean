/-! law: all clauses, in both -/
def SLa (q a k : Nat) : Bool := SLw q a k || (a == q + 1 || a == q + 2 || a == q + 3 || a == q + 4) || (a == q && k == 0)
def SMla (a k : Nat) : Bool := SLm a k || (a == 111 || a == 112 || a == 113 || a == 114) || (a == 102 && k == 15)
def RwN (q : Nat) (m : Int) (N A B C : Int → Int) (σ : Sg) : Prop := isRow (q + 1) m N σ ∧ isRow (q + 2) m A σ ∧ isRow (q + 3) m B σ ∧ isRow (q + 4) m C σ
def RwM (m : Int) (N A B C : Int → Int) (τ : Sg) : Prop := isRow 111 m N τ ∧ isRow 112 m A τ ∧ isRow 113 m B τ ∧ isRow 114 m C τ
def ClOk (m s : Int) (K : KK) (N A B C : Int → Int) : Prop := ∀ i, 0 ≤ i → i < m → isKd (N i) ∧ 0 ≤ A i ∧ A i ≤ B i ∧ B i ≤ C i ∧ C i ≤ s ∧ (N i ≠ 120 → WE K.1 K.2.1 false (A i) (B i) 60) ∧ WE K.1 K.2.1 true (B i) (C i) 60
theorem ClOk.next {m s b s' c : Int} {K K' : KK} {N A B C : Int → Int} (h : ClOk m s K N A B C) (hc : isKd c) (s0 : 0 ≤ s) (h1 : s ≤ b) (h2 : b < s') (ag : kAg s K K') (w1 : c ≠ 120 → WE K'.1 K'.2.1 false s b 60) (w2 : WE K'.1 K'.2.1 true b s' 60) : ClOk (m + 1) s' K' (mup N m c) (mup A m s) (mup B m b) (mup C m s') := fun i i0 i1 => by
  by_cases q : i = m
  · subst q
    rw [mup_same, mup_same, mup_same, mup_same]
    exact ⟨hc, s0, h1, by omega, Int.le_refl _, w1, w2⟩
  · rw [mup_ne q, mup_ne q, mup_ne q, mup_ne q]
    obtain ⟨e1, e2, e3, e4, e5, e6, e7⟩ := h i i0 (by omega)
    exact ⟨e1, e2, e3, e4, by omega, fun y => (e6 y).ag ag e2 (by omega), e7.ag ag (by omega) e5⟩
theorem law32_0 {d : Nat} {x1 x3 : Value} {τ : Sg} : f_M_law_32 d x1 (zI 0) x3 τ = rI (τ.1 102 10) (sI τ 102 7 (zI 0)) := by
  rw [f_M_law_32_eq, if0z]
  dsimp only
  rw [if0z, sI_slot _ _ _ _ (by decide), zI_0]
theorem law32_1 {n pl : Int} {T : Int → Int} {d : Nat} {x1 x3 : Value} {τ : Sg} (h : MP n T pl τ) (hx : TX n T) (p0 : 0 ≤ pl) (p1 : pl ≤ n) : f_M_law_32 (d + 6) x1 (zI 1) x3 τ = if pl < n then (if chA n T pl = 59 then (cI (f_M_readsClause (d + 6) (sI τ 102 8 (zI (pl + 1)))) fun v6 σ5 => if v6 = 0 then (f_M_law_32 (d + 6) (nlg x1) 0 (x3) σ5) else (f_M_law_32 (d + 6) (nlg x1) 1 (x3) σ5)) else rI (zI (-1000 - pl)) (sI (sI τ 102 10 (zI (-1000 - pl))) 102 7 (zI 0))) else f_M_law_96 (d + 6) x1 (.int (zI 1)) (zI 0) (sI (sI τ 102 7 (zI 0)) 102 16 (τ.1 102 15)) := by
  have n260 := hx.2.1
  rw [f_M_law_32_eq, if1z, h.2.1, h.2.2, ifLe (by omega) (by omega)]
  by_cases q : pl < n
  · rw [if_pos q, if_pos q, show (59 : Int32) = zI 59 from zI_lit 59, takes_sp h hx p0 p1 (by decide) (by decide)]
    by_cases w : chA n T pl = 59
    · rw [if_pos w, if_pos w, cI_rI, if1z]
    · rw [if_neg w, if_neg w, cI_rI, if0z, zI_0, law32_0, sI_same]
  · rw [if_neg q, if_neg q]
    dsimp only
    rw [if1z, sI_slot _ _ _ _ (by decide), zI_0]
theorem lread12_0 {q : Nat} {v : Int} (v0 : v ≠ 0) (b1 : -10000 < v) (b2 : v ≤ 0) {d : Nat} {i : Int32} {σ : Sg} : f_LawReader_read_12 d q (zI v) i σ = rI (zI v) σ := by
  rw [f_LawReader_read_12_eq]
  by_cases h : i < σ.1 5 3
  · rw [if_pos h, ifV b2 b1, if_neg v0, ifV b2 b1, if_neg v0]
  · rw [if_neg h, ifV b2 b1, if_neg v0]
theorem lread12_1 {q : Nat} {n pl s i : Int} {T : Int → Int} {K : KK} {σ : Sg} (h : CL q n T pl s K σ) (hx : TX n T) (p0 : 0 ≤ pl) (p1 : pl ≤ n) (i0 : 0 ≤ i) (i1 : i ≤ pl) {d : Nat} : f_LawReader_read_12 (d + 2) q (zI 0) (zI i) σ = if chA n T pl = 59 then (cI (f_LawReader_readClause (d + 2) q (sI σ 5 4 (zI (pl + 1)))) fun v5 σ4 => f_LawReader_read_12 (d + 2) q v5 (zI (i + 1)) σ4) else rI (zI (if pl < n then -1000 - pl else 0)) σ := by
  obtain ⟨c0, c1, c2⟩ := hx.ch p0
  have n260 := hx.2.1
  have e : f_Tape_end (d + 2) σ = rI (zI (if pl < n then -1000 - pl else 0)) σ := endT_sp h.1 hx.1 hx.2.1 p0 p1
  rw [f_LawReader_read_12_eq, h.1.1.2.1, ifLe (by omega) (by omega)]
  by_cases w : i < n
  · rw [if_pos w, if0z, h.1.now hx p0 p1, cI_rI, show (59 : Int32) = zI 59 from zI_lit 59, ifEq (by omega) (by decide)]
    by_cases z : chA n T pl = 59
    · rw [if_pos z, if_pos z]
      dsimp only
      rw [h.1.nx, show (1 : Int32) = zI 1 from zI_lit 1, zI_add]
    · rw [if_neg z, if_neg z, if0z, e, cI_rI]
  · have : chA n T pl ≠ 59 := fun z => by have := c2 (by omega); omega
    rw [if_neg w, if_neg this, if0z, e, cI_rI]
noncomputable def mRunL (d : Nat) (x1 x3 : Value) (τ : Sg) : Rs := cI (f_M_readsClause d τ) fun v σ => f_M_law_32 d x1 v x3 σ
theorem isRow.upN {a : Nat} {m v : Int} {S : Int → Int} {σ σ' : Sg} (h : isRow a m S σ) (m0 : 0 ≤ m) (hm : σ'.1 a m.toNat = zI v) (hk : ∀ k : Nat, k ≠ m.toNat → σ'.1 a k = σ.1 a k) : isRow a (m + 1) (mup S m v) σ' := h.up hm fun x x0 x1 => hk _ (by omega)
theorem lawLoop {q : Nat} (hq : isL q) {n : Int} {T : Int → Int} (hx : TX n T) (n240 : n ≤ 240) : ∀ (b : Nat) (pl s m : Int) (K : KK) (N A B C : Int → Int), n - pl ≤ b → 0 ≤ pl → pl ≤ n → 0 ≤ s → s ≤ pl → KOk s K → 0 ≤ m → m ≤ 16 → ClOk m s K N A B C → ∃ (v m' s' : Int) (K' : KK) (N' A' B' C' : Int → Int), -10000 < v ∧ v ≤ 0 ∧ (v = 0 → 0 ≤ m' ∧ m' ≤ 16 ∧ 0 ≤ s' ∧ s' ≤ 240 ∧ KOk s' K' ∧ ClOk m' s' K' N' A' B' C') ∧
  (∀ σ i, 0 ≤ i → i ≤ pl → CL q n T pl s K σ → σ.1 q 0 = zI m → RwN q m N A B C σ → ∃ σ', (cI (f_LawReader_readClause 98 q σ) fun v σ => f_LawReader_read_12 98 q v (zI i) σ) = rI (zI v) σ' ∧ Fr (SLa q) σ σ' ∧ (v = 0 → (∃ pl', CL q n T pl' s' K' σ') ∧ σ'.1 q 0 = zI m' ∧ RwN q m' N' A' B' C' σ')) ∧
  (∀ τ o wt Wt, ML n T pl o s K wt Wt τ → τ.1 102 15 = zI m → RwM m N A B C τ → ∃ τ', (∀ x1 x3, ∃ y, mRunL 99 x1 x3 τ = if v = 0 then f_M_law_96 99 y (.int (zI 1)) (zI 0) (sI (sI τ' 102 7 (zI 0)) 102 16 (zI m')) else rI (zI v) (sI τ' 102 7 (zI 0))) ∧ Fr SMla τ τ' ∧ (v = 0 → τ'.1 102 13 = zI s' ∧ isRow 109 s' K'.2.2 τ' ∧ τ'.1 102 15 = zI m' ∧ RwM m' N' A' B' C' τ')) := by
  have n260 := hx.2.1
  have neq : q ≠ 5 := by rcases hq with rfl | rfl <;> decide
  intro b
  induction b with
  | zero =>
    intro pl s m K N A B C hb p0 p1 s0 sp ok m0 m16 co
    obtain ⟨v, pl', s', b', K', b1, b2, b3, hN, hM⟩ := clauseBoth hq hx n240 pl s m K p0 p1 s0 sp ok m0 m16
    have v0 : v ≠ 0 := fun y => by have := b3 y; omega
    refine ⟨v, 0, 0, K, N, A, B, C, b1, b2, fun y => absurd y v0, fun σ i i0 i1 h em ro => ?_, fun τ o wt Wt h em ro => ?_⟩
    · obtain ⟨σ1, a1, a2, -⟩ := hN 57 σ h em
      have a1 : f_LawReader_readClause 98 q σ = rI (zI v) σ1 := a1
      exact ⟨σ1, by rw [a1, cI_rI, lread12_0 v0 b1 b2], a2.mono fun a k e => by simp only [SLa, SLc, Bool.or_eq_false_iff, Bool.and_eq_false_iff] at e ⊢; exact ⟨⟨e.1.1, Or.inl e.1.2⟩, e.2⟩, fun y => absurd y v0⟩
    · obtain ⟨τ1, -, -, -, a1, a2, a3, -⟩ := hM 89 τ o wt Wt h em
      have a1 : f_M_readsClause 99 τ = rI (bz (decide (v = 0))) τ1 := a1
      refine ⟨τ1, fun x1 x3 => ⟨x1, ?_⟩, a2.mono fun a k e => by simp only [SMla, SMcl, Bool.or_eq_false_iff, Bool.and_eq_false_iff] at e ⊢; exact ⟨⟨e.1.1, Or.inl e.1.2⟩, e.2⟩, fun y => absurd y v0⟩
      unfold mRunL
      rw [a1, cI_rI, bzn (by omega), law32_0, a3 (by omega), if_neg v0]
  | succ b ih =>
    intro pl s m K N A B C hb p0 p1 s0 sp ok m0 m16 co
    obtain ⟨v, pl1, s1, b', K1, b1, b2, b3, hN, hM⟩ := clauseBoth hq hx n240 pl s m K p0 p1 s0 sp ok m0 m16
    by_cases v0 : v = 0
    · subst v0
      obtain ⟨m15, kd, l0, l1, l2, l3, l4, ag, ok1, w1, w2⟩ := b3 rfl
      have co1 := co.next kd s0 l2 l3 ag w1 w2
      obtain ⟨c0, c1, c2⟩ := hx.ch (show 0 ≤ pl1 by omega)
      have aN : ∀ σ i, 0 ≤ i → i ≤ pl → CL q n T pl s K σ → σ.1 q 0 = zI m → RwN q m N A B C σ → ∃ σ', Fr (SLa q) σ σ' ∧ CL q n T pl1 s1 K1 σ' ∧ σ'.1 q 0 = zI (m + 1) ∧ RwN q (m + 1) (mup N m (chA n T pl)) (mup A m s) (mup B m b') (mup C m s1) σ' ∧ (cI (f_LawReader_readClause 98 q σ) fun v σ => f_LawReader_read_12 98 q v (zI i) σ) = f_LawReader_read_12 98 q (zI 0) (zI i) σ' := fun σ i i0 i1 h em ro => by
        obtain ⟨σ1, a1, a2, a3⟩ := hN 57 σ h em
        have a1 : f_LawReader_readClause 98 q σ = rI (zI 0) σ1 := a1
        obtain ⟨e1, e2, e3, e4, e5, e6⟩ := a3 rfl
        have keep : ∀ a, (a = q + 1 ∨ a = q + 2 ∨ a = q + 3 ∨ a = q + 4) → ∀ k : Nat, k ≠ m.toNat → σ1.1 a k = σ.1 a k := fun a ha k hk => a2.2 a k (by rcases hq with rfl | rfl <;> rcases ha with rfl | rfl | rfl | rfl <;> simp [SLc, SLw, hk])
        exact ⟨σ1, a2.mono fun a k e => by simp only [SLa, SLc, Bool.or_eq_false_iff, Bool.and_eq_false_iff] at e ⊢; exact ⟨⟨e.1.1, Or.inl e.1.2⟩, e.2⟩, e1, e2, ⟨ro.1.upN m0 e3 (keep _ (by simp)), ro.2.1.upN m0 e4 (keep _ (by simp)), ro.2.2.1.upN m0 e5 (keep _ (by simp)), ro.2.2.2.upN m0 e6 (keep _ (by simp))⟩, by rw [a1, cI_rI]⟩
      have aM : ∀ τ o wt Wt, ML n T pl o s K wt Wt τ → τ.1 102 15 = zI m → RwM m N A B C τ → ∃ τ' o' wt' Wt', Fr SMla τ τ' ∧ ML n T pl1 o' s1 K1 wt' Wt' τ' ∧ τ'.1 102 15 = zI (m + 1) ∧ RwM (m + 1) (mup N m (chA n T pl)) (mup A m s) (mup B m b') (mup C m s1) τ' ∧ ∀ x1 x3, mRunL 99 x1 x3 τ = f_M_law_32 99 x1 (zI 1) x3 τ' := fun τ o wt Wt h em ro => by
        obtain ⟨τ1, o', wt', Wt', a1, a2, -, a3⟩ := hM 89 τ o wt Wt h em
        have a1 : f_M_readsClause 99 τ = rI (bz (decide ((0 : Int) = 0))) τ1 := a1
        obtain ⟨e1, e2, e3, e4, e5, e6⟩ := a3 rfl
        have keep : ∀ a, (a = 111 ∨ a = 112 ∨ a = 113 ∨ a = 114) → ∀ k : Nat, k ≠ m.toNat → τ1.1 a k = τ.1 a k := fun a ha k hk => a2.2 a k (by rcases ha with rfl | rfl | rfl | rfl <;> simp [SMcl, SLm, hk])
        refine ⟨τ1, o', wt', Wt', a2.mono fun a k e => by simp only [SMla, SMcl, Bool.or_eq_false_iff, Bool.and_eq_false_iff] at e ⊢; exact ⟨⟨e.1.1, Or.inl e.1.2⟩, e.2⟩, e1, e2, ⟨ro.1.upN m0 e3 (keep _ (by simp)), ro.2.1.upN m0 e4 (keep _ (by simp)), ro.2.2.1.upN m0 e5 (keep _ (by simp)), ro.2.2.2.upN m0 e6 (keep _ (by simp))⟩, fun x1 x3 => ?_⟩
        unfold mRunL
        rw [a1, cI_rI, bzz]
      by_cases w : chA n T pl1 = 59
      · have pn : pl1 < n := c2 (by omega)
        obtain ⟨v', m', s', K', N', A', B', C', d1, d2, d3, iN, iM⟩ := ih (pl1 + 1) s1 (m + 1) K1 _ _ _ _ (by omega) (by omega) (by omega) (by omega) (by omega) ok1 (by omega) (by omega) co1
        refine ⟨v', m', s', K', N', A', B', C', d1, d2, d3, fun σ i i0 i1 h em ro => ?_, fun τ o wt Wt h em ro => ?_⟩
        · obtain ⟨σ1, F1, h1, e1, r1, run⟩ := aN σ i i0 i1 h em ro
          have nr : ∀ a, (a = q + 1 ∨ a = q + 2 ∨ a = q + 3 ∨ a = q + 4) → a ≠ 5 := fun a ha => by rcases hq with rfl | rfl <;> omega
          obtain ⟨σ2, x1, x2, x3⟩ := iN (sI σ1 5 4 (zI (pl1 + 1))) (i + 1) (by omega) (by omega) (h1.up hq (pl1 + 1)) ((sI_row _ _ _ _ _ neq).trans e1) ⟨fun x x0 x1 => (sI_row _ _ _ _ _ (nr _ (by simp))).trans (r1.1 x x0 x1), fun x x0 x1 => (sI_row _ _ _ _ _ (nr _ (by simp))).trans (r1.2.1 x x0 x1), fun x x0 x1 => (sI_row _ _ _ _ _ (nr _ (by simp))).trans (r1.2.2.1 x x0 x1), fun x x0 x1 => (sI_row _ _ _ _ _ (nr _ (by simp))).trans (r1.2.2.2 x x0 x1)⟩
          exact ⟨σ2, by rw [run, lread12_1 h1 hx (by omega) l1 i0 (by omega), if_pos w, x1], (F1.sI _ (by simp [SLa, SLw])).tr x2, x3⟩
        · obtain ⟨τ1, o', wt', Wt', F1, h1, e1, r1, run⟩ := aM τ o wt Wt h em ro
          have r2 : RwM (m + 1) (mup N m (chA n T pl)) (mup A m s) (mup B m b') (mup C m s1) (sI τ1 102 8 (zI (pl1 + 1))) := ⟨fun x x0 x1 => (sI_row _ _ _ _ _ (by decide)).trans (r1.1 x x0 x1), fun x x0 x1 => (sI_row _ _ _ _ _ (by decide)).trans (r1.2.1 x x0 x1), fun x x0 x1 => (sI_row _ _ _ _ _ (by decide)).trans (r1.2.2.1 x x0 x1), fun x x0 x1 => (sI_row _ _ _ _ _ (by decide)).trans (r1.2.2.2 x x0 x1)⟩
          have e2 : (sI τ1 102 8 (zI (pl1 + 1))).1 102 15 = zI (m + 1) := (sI_slot _ _ _ _ (by decide)).trans e1
          obtain ⟨τ2, x1, x2, x3⟩ := iM _ o' wt' Wt' (h1.up (pl1 + 1)) e2 r2
          refine ⟨τ2, fun y1 y3 => ?_, (F1.sI _ (by simp [SMla, SLm])).tr x2, x3⟩
          obtain ⟨y, hy⟩ := x1 (nlg y1) y3
          refine ⟨y, ?_⟩
          obtain ⟨τ3, u, z1⟩ : ∃ τ3, ∃ u : Int, f_M_readsClause 99 (sI τ1 102 8 (zI (pl1 + 1))) = rI (bz (decide (u = 0))) τ3 := by
            obtain ⟨u, _, _, _, _, _, _, _, _, hM'⟩ := clauseBoth hq hx n240 (pl1 + 1) s1 (m + 1) K1 (by omega) (by omega) (by omega) (by omega) ok1 (by omega) (by omega)
            obtain ⟨τ3, -, -, -, z1, -⟩ := hM' 89 _ o' wt' Wt' (h1.up (pl1 + 1)) e2
            exact ⟨τ3, u, z1⟩
          have st := law32_1 (d := 93) (x1 := y1) (x3 := y3) h1.1 hx (by omega) l1
          rw [if_pos pn, if_pos w] at st
          rw [run, ← hy]
          refine st.trans ?_
          unfold mRunL
          have z1' : f_M_readsClause (93 + 6) (sI τ1 102 8 (zI (pl1 + 1))) = rI (bz (decide (u = 0))) τ3 := z1
          rw [z1', cI_rI, cI_rI, ifBz]
          by_cases uz : u = 0
          · rw [if_pos uz, decide_eq_true uz, bz_tt, show (1 : Int32) = zI 1 from zI_lit 1]
            try rfl
          · rw [if_neg uz, decide_eq_false uz, bz_ff, zI_0]
            try rfl
      · generalize hv : (if pl1 < n then -1000 - pl1 else 0 : Int) = v
        have vb : -10000 < v ∧ v ≤ 0 ∧ (v = 0 ↔ ¬ pl1 < n) := by subst hv; split <;> omega
        refine ⟨v, m + 1, s1, K1, _, _, _, _, vb.1, vb.2.1, fun _ => ⟨by omega, by omega, by omega, by omega, ok1, co1⟩, fun σ i i0 i1 h em ro => ?_, fun τ o wt Wt h em ro => ?_⟩
        · obtain ⟨σ1, F1, h1, e1, r1, run⟩ := aN σ i i0 i1 h em ro
          exact ⟨σ1, by rw [run, lread12_1 h1 hx (by omega) l1 i0 (by omega), if_neg w, hv], F1, fun _ => ⟨⟨pl1, h1⟩, e1, r1⟩⟩
        · obtain ⟨τ1, o', wt', Wt', F1, h1, e1, r1, run⟩ := aM τ o wt Wt h em ro
          by_cases z : pl1 < n
          · refine ⟨sI τ1 102 10 (zI (-1000 - pl1)), fun y1 y3 => ⟨y1, ?_⟩, F1.sI _ (by simp [SMla, SLm]), fun y => absurd z (vb.2.2.mp y)⟩
            have st := law32_1 (d := 93) (x1 := y1) (x3 := y3) h1.1 hx (by omega) l1
            rw [if_pos z, if_neg w] at st
            rw [run, if_neg (fun y => vb.2.2.mp y z), ← hv, if_pos z]
            exact st
          · refine ⟨τ1, fun y1 y3 => ⟨y1, ?_⟩, F1, fun _ => ⟨h1.2.2.1, h1.2.2.2.2.1, e1, r1⟩⟩
            have st := law32_1 (d := 93) (x1 := y1) (x3 := y3) h1.1 hx (by omega) l1
            rw [if_neg z, e1] at st
            rw [run, if_pos (vb.2.2.mpr z)]
            exact st
    · refine ⟨v, 0, 0, K, N, A, B, C, b1, b2, fun y => absurd y v0, fun σ i i0 i1 h em ro => ?_, fun τ o wt Wt h em ro => ?_⟩
      · obtain ⟨σ1, a1, a2, -⟩ := hN 57 σ h em
        have a1 : f_LawReader_readClause 98 q σ = rI (zI v) σ1 := a1
        exact ⟨σ1, by rw [a1, cI_rI, lread12_0 v0 b1 b2], a2.mono fun a k e => by simp only [SLa, SLc, Bool.or_eq_false_iff, Bool.and_eq_false_iff] at e ⊢; exact ⟨⟨e.1.1, Or.inl e.1.2⟩, e.2⟩, fun y => absurd y v0⟩
      · obtain ⟨τ1, -, -, -, a1, a2, a3, -⟩ := hM 89 τ o wt Wt h em
        have a1 : f_M_readsClause 99 τ = rI (bz (decide (v = 0))) τ1 := a1
        refine ⟨τ1, fun x1 x3 => ⟨x1, ?_⟩, a2.mono fun a k e => by simp only [SMla, SMcl, Bool.or_eq_false_iff, Bool.and_eq_false_iff] at e ⊢; exact ⟨⟨e.1.1, Or.inl e.1.2⟩, e.2⟩, fun y => absurd y v0⟩
        unfold mRunL
        rw [a1, cI_rI, bzn (by omega), law32_0, a3 (by omega), if_neg v0]
