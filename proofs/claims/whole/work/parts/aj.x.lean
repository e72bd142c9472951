/-! law: a clause, in both: joined -/
def SLc (q j a k : Nat) : Bool := SLw q a k || ((a == q + 1 || a == q + 2 || a == q + 3 || a == q + 4) && k == j) || (a == q && k == 0)
def SMcl (j a k : Nat) : Bool := SLm a k || ((a == 111 || a == 112 || a == 113 || a == 114) && k == j) || (a == 102 && k == 15)
theorem CL.row {q : Nat} (hq : isL q) {n : Int} {T : Int → Int} {pl s : Int} {K : KK} {σ : Sg} (h : CL q n T pl s K σ) {a k : Nat} (v : Int32) (ha : a = q + 1 ∨ a = q + 2 ∨ a = q + 3 ∨ a = q + 4 ∨ a = q ∧ k = 0) : CL q n T pl s K (sI σ a k v) := by
  have ne : ∀ b : Nat, b = 5 ∨ b = 6 ∨ b = q + 5 ∨ b = q + 6 → b ≠ a := fun b hb => by rcases hq with rfl | rfl <;> omega
  have F : Fr (fun x y => x == a && y == k) σ (sI σ a k v) := (Fr.rf _ σ).sI _ (by simp)
  refine ⟨h.1.fr F ?_ ?_ (fun j => ?_) ((sI_row _ _ _ _ _ (ne 5 (Or.inl rfl))).trans h.1.2), ?_, fun j j0 j1 => ⟨(sI_row _ _ _ _ _ (ne _ (by simp))).trans (h.2.2 j j0 j1).1, (sI_row _ _ _ _ _ (ne _ (by simp))).trans (h.2.2 j j0 j1).2⟩⟩
  · have := ne 5 (Or.inl rfl); simp; omega
  · have := ne 5 (Or.inl rfl); simp; omega
  · have := ne 6 (Or.inr (Or.inl rfl)); simp; omega
  · rw [sI_1, if_neg (by rcases hq with rfl | rfl <;> omega)]; exact h.2.1
theorem ML.row {n : Int} {T : Int → Int} {pl o s wt : Int} {K : KK} {Wt : Int → Int} {τ : Sg} (h : ML n T pl o s K wt Wt τ) {a k : Nat} (v : Int32) (ha : a = 111 ∨ a = 112 ∨ a = 113 ∨ a = 114 ∨ a = 102 ∧ k = 15) : ML n T pl o s K wt Wt (sI τ a k v) := by
  have ne : ∀ b j : Nat, b = 108 ∨ b = 109 ∨ b = 110 ∨ b = 102 ∧ (j = 8 ∨ j = 9 ∨ j = 12 ∨ j = 13 ∨ j = 14) → (sI τ a k v).1 b j = τ.1 b j := fun b j hb => by rw [sI_1, if_neg (by omega)]
  exact ⟨⟨fun j j0 j1 => by rw [ne _ _ (by simp)]; exact h.1.1 j j0 j1, (ne _ _ (by simp)).trans h.1.2.1, (ne _ _ (by simp)).trans h.1.2.2⟩, (ne _ _ (by simp)).trans h.2.1, (ne _ _ (by simp)).trans h.2.2.1, (ne _ _ (by simp)).trans h.2.2.2.1, fun j j0 j1 => (ne _ _ (by simp)).trans (h.2.2.2.2.1 j j0 j1), fun j j0 j1 => (ne _ _ (by simp)).trans (h.2.2.2.2.2 j j0 j1)⟩
theorem cTo_sp {q : Nat} (hq : isL q) {m z : Int} {v : Int32} {σ : Sg} (m0 : 0 ≤ m) (m16 : m < 16) (em : σ.1 q 0 = zI m) (es : σ.1 q 5 = zI z) {d : Nat} : cTo d q (zI m) v σ = rI v (sI (sI σ (q + 4) m.toNat (zI z)) q 0 (zI (m + 1))) := by
  unfold cTo
  rw [gfS_of hq.s0, gfI_of hq.s0, es, ofs_2_4, stI_of hq.s4 m0 (by omega) (by omega), gfI_of hq.s0, sI_row _ _ _ _ _ (by omega), em, show (1 : Int32) = zI 1 from zI_lit 1, zI_add, pfI_of hq.s0]
/-- from where the half is laid down -/
theorem halfBoth {q : Nat} (hq : isL q) {n : Int} {T : Int → Int} (hx : TX n T) (n240 : n ≤ 240) (pl s m : Int) (K : KK) (p0 : 0 ≤ pl) (p1 : pl ≤ n) (s0 : 0 ≤ s) (sp : s ≤ pl) (ok : KOk s K) (m0 : 0 ≤ m) (m16 : m < 16) : ∃ (v pl' s' : Int) (K' : KK), -10000 < v ∧ v ≤ 0 ∧ (v = 0 → pl < pl' ∧ pl' ≤ n ∧ s < s' ∧ s' - s ≤ pl' - pl ∧ kAg s K K' ∧ KOk s' K' ∧ WE K'.1 K'.2.1 true s s' 60) ∧
  (∀ (d : Nat) σ, CL q n T pl s K σ → σ.1 q 0 = zI m → ∃ σ', cBrk (d + 40) q (zI m) σ = rI (zI v) σ' ∧ Fr (SLc q m.toNat) σ σ' ∧ (v = 0 → CL q n T pl' s' K' σ' ∧ σ'.1 q 0 = zI (m + 1) ∧ σ'.1 (q + 1) m.toNat = σ.1 (q + 1) m.toNat ∧ σ'.1 (q + 2) m.toNat = σ.1 (q + 2) m.toNat ∧ σ'.1 (q + 3) m.toNat = zI s ∧ σ'.1 (q + 4) m.toNat = zI s')) ∧
  (∀ (d : Nat) τ o wt Wt, ML n T pl o s K wt Wt τ → τ.1 102 15 = zI m → ∃ τ' o' wt' Wt', mCnd (d + 9) τ = rI (bz (decide (v = 0))) τ' ∧ Fr (SMcl m.toNat) τ τ' ∧ (v < 0 → τ'.1 102 10 = zI v) ∧ (v = 0 → ML n T pl' o' s' K' wt' Wt' τ' ∧ τ'.1 102 15 = zI (m + 1) ∧ τ'.1 111 m.toNat = τ.1 111 m.toNat ∧ τ'.1 112 m.toNat = τ.1 112 m.toNat ∧ τ'.1 113 m.toNat = zI s ∧ τ'.1 114 m.toNat = zI s')) := by
  have n260 := hx.2.1
  have neq : q ≠ 5 := by rcases hq with rfl | rfl <;> decide
  obtain ⟨c0, c1, c2⟩ := hx.ch p0
  obtain ⟨v, pl', s', K', b1, b2, b3, hN, hM⟩ := condBoth hq hx n240 pl s K p0 p1 s0 sp ok
  refine ⟨v, pl', s', K', b1, b2, b3, fun d σ h em => ?_, fun d τ o wt Wt h em => ?_⟩
  · have h1 : CL q n T pl s K (sI σ (q + 3) m.toNat (zI s)) := h.row hq _ (by simp)
    have em1 : (sI σ (q + 3) m.toNat (zI s)).1 q 0 = zI m := (sI_row _ _ _ _ _ (by omega)).trans em
    obtain ⟨σ1, a1, a2, a3, a4⟩ := hN d _ h1
    have em2 : σ1.1 q 0 = zI m := (a2.2 _ _ (by rcases hq with rfl | rfl <;> rfl)).trans em1
    obtain ⟨z, es⟩ : ∃ z : Int, σ1.1 q 5 = zI z ∧ (v = 0 → z = s') := by
      by_cases y : v = 0
      · exact ⟨s', (a4 y).2.1, fun _ => rfl⟩
      · obtain ⟨z, -, -, e⟩ := a3 (by omega)
        exact ⟨z, e, fun w => absurd w y⟩
    have rows : ∀ a k, (a = q + 1 ∨ a = q + 2 ∨ a = q + 3 ∨ a = q + 4) → σ1.1 a k = (sI σ (q + 3) m.toNat (zI s)).1 a k := fun a k ha => a2.2 a k (by rcases hq with rfl | rfl <;> rcases ha with rfl | rfl | rfl | rfl <;> rfl)
    have G : Fr (SLc q m.toNat) σ σ1 := ((Fr.rf _ σ).sI _ (by simp [SLc])).tr (a2.mono fun a k e => by simp only [SLc, Bool.or_eq_false_iff] at e; exact e.1.1)
    refine ⟨sI (sI σ1 (q + 4) m.toNat (zI z)) q 0 (zI (m + 1)), ?_, (G.sI _ (by simp [SLc])).sI _ (by simp [SLc]), fun y => ⟨((a4 y).row hq _ (by simp)).row hq _ (by simp), sI_same _ _ _ _, ?_, ?_, ?_, ?_⟩⟩
    · unfold cBrk
      rw [gfS_of hq.s0, gfI_of hq.s0, h.2.1, ofs_2_3, stI_of hq.s3 m0 (by omega) (by omega)]
      have H := h1.1.now hx p0 p1 (d := d + 39)
      have H : f_Tape_now (d + 40) (sI σ (q + 3) m.toNat (zI s)) = rI (zI (chA n T pl)) (sI σ (q + 3) m.toNat (zI s)) := H
      rw [H, cI_rI, show (40 : Int32) = zI 40 from zI_lit 40, ifEq (by omega) (by decide)]
      by_cases y : chA n T pl = 40
      · rw [if_pos y] at a1 ⊢
        rw [show (1 : Int32) = zI 1 from zI_lit 1, a1, cI_rI, cTo_sp hq m0 m16 em2 es.1]
      · rw [if_neg y] at a1 ⊢
        obtain ⟨e1, e2⟩ := rI_two a1
        have fl : f_Tape_fault (d + 40) (zI 1) (sI σ (q + 3) m.toNat (zI s)) = rI (zI (-1000 * 1 - pl)) (sI σ (q + 3) m.toNat (zI s)) := tfaultZ (d := d + 39) h1.1.2
        rw [show (1 : Int32) = zI 1 from zI_lit 1, fl, cI_rI, e2, cTo_sp hq m0 m16 em2 es.1, ← e1]
        rfl
    · rw [sI_row _ _ _ _ _ (by omega), sI_row _ _ _ _ _ (by omega), rows _ _ (by simp), sI_row _ _ _ _ _ (by omega)]
    · rw [sI_row _ _ _ _ _ (by omega), sI_row _ _ _ _ _ (by omega), rows _ _ (by simp), sI_row _ _ _ _ _ (by omega)]
    · rw [sI_row _ _ _ _ _ (by omega), sI_row _ _ _ _ _ (by omega), rows _ _ (by simp), sI_same]
    · rw [sI_row _ _ _ _ _ (by omega), sI_same, es.2 y]
  · have h1 : ML n T pl o s K wt Wt (sI τ 113 m.toNat (zI s)) := h.row _ (by simp)
    have em1 : (sI τ 113 m.toNat (zI s)).1 102 15 = zI m := (sI_row _ _ _ _ _ (by decide)).trans em
    obtain ⟨τ1, o', wt', Wt', a1, a2, a3, a4⟩ := hM d _ o wt Wt h1
    have em2 : τ1.1 102 15 = zI m := (a2.2 _ _ rfl).trans em1
    have rows : ∀ a k, (a = 111 ∨ a = 112 ∨ a = 113 ∨ a = 114) → τ1.1 a k = (sI τ 113 m.toNat (zI s)).1 a k := fun a k ha => a2.2 a k (by rcases ha with rfl | rfl | rfl | rfl <;> rfl)
    have G : Fr (SMcl m.toNat) τ τ1 := ((Fr.rf _ τ).sI _ (by simp [SMcl])).tr (a2.mono fun a k e => by simp only [SMcl, Bool.or_eq_false_iff] at e; exact e.1.1)
    have st : mCnd (d + 9) τ = if v = 0 then (bnd (τ1.1 102 15) 16 (let σ13 := sI τ1 114 (ix (τ1.1 102 15)) (τ1.1 102 13); let σ14 := sI σ13 102 15 ((σ13.1 102 15) + 1); rZ 1 σ14)) else rI (zI 0) τ1 := by
      unfold mCnd
      rw [em, bnd_zI m0 (by omega) (by omega), ix_zI m0 (by omega), h.2.2.1]
      dsimp only
      rw [a1, cI_rI, ifBz]
      by_cases y : v = 0
      · rw [if_pos y, if_pos y]
      · rw [if_neg y, if_neg y]; rfl
    by_cases y : v = 0
    · have g := a4 y
      refine ⟨sI (sI τ1 114 m.toNat (zI s')) 102 15 (zI (m + 1)), o', wt', Wt', ?_, (G.sI _ (by simp [SMcl])).sI _ (by simp [SMcl]), fun w => by omega, fun _ => ⟨(g.row _ (by simp)).row _ (by simp), sI_same _ _ _ _, ?_, ?_, ?_, ?_⟩⟩
      · rw [st, if_pos y, em2, bnd_zI m0 (by omega) (by omega), ix_zI m0 (by omega), g.2.2.1]
        dsimp only
        rw [sI_row _ _ _ _ _ (by decide), em2, show (1 : Int32) = zI 1 from zI_lit 1, zI_add, decide_eq_true y]
        rfl
      · rw [sI_row _ _ _ _ _ (by decide), sI_row _ _ _ _ _ (by decide), rows _ _ (by simp), sI_row _ _ _ _ _ (by decide)]
      · rw [sI_row _ _ _ _ _ (by decide), sI_row _ _ _ _ _ (by decide), rows _ _ (by simp), sI_row _ _ _ _ _ (by decide)]
      · rw [sI_row _ _ _ _ _ (by decide), sI_row _ _ _ _ _ (by decide), rows _ _ (by simp), sI_same]
      · rw [sI_row _ _ _ _ _ (by decide), sI_same]
    · exact ⟨τ1, o', wt', Wt', by rw [st, if_neg y, bzn (by omega)], G, a3, fun w => absurd w y⟩
