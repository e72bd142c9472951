/-! law: a clause, read in both -/
theorem zero_ML {n : Int} {T : Int → Int} {pl o s wt : Int} {K : KK} {Wt : Int → Int} {τ : Sg} (h : ML n T pl o s K wt Wt τ) : ML n T pl 0 s K 0 (fun _ => 0) (sI (sI τ 102 12 (zI 0)) 102 14 (zI 0)) := by
  have F : Fr SLm τ (sI (sI τ 102 12 (zI 0)) 102 14 (zI 0)) := ((Fr.rf _ τ).sI _ rfl).sI _ rfl
  refine ⟨h.1.fr F rfl (fun _ => rfl) ?_, ?_, ?_, sI_same _ _ _ _, fun j j0 j1 => ?_, fun j j0 j1 => by omega⟩
  · rw [sI_slot _ _ _ _ (by decide), sI_slot _ _ _ _ (by decide)]; exact h.1.2.1
  · rw [sI_slot _ _ _ _ (by decide), sI_same]
  · rw [sI_slot _ _ _ _ (by decide), sI_slot _ _ _ _ (by decide)]; exact h.2.2.1
  · rw [sI_row _ _ _ _ _ (by decide), sI_row _ _ _ _ _ (by decide)]; exact h.2.2.2.2.1 j j0 j1
theorem clauseBoth {q : Nat} (hq : isL q) {n : Int} {T : Int → Int} (hx : TX n T) (n240 : n ≤ 240) (pl s m : Int) (K : KK) (p0 : 0 ≤ pl) (p1 : pl ≤ n) (s0 : 0 ≤ s) (sp : s ≤ pl) (ok : KOk s K) (m0 : 0 ≤ m) (m16 : m ≤ 16) : ∃ (v pl' s' b : Int) (K' : KK), -10000 < v ∧ v ≤ 0 ∧ (v = 0 → m < 16 ∧ isKd (chA n T pl) ∧ pl < pl' ∧ pl' ≤ n ∧ s ≤ b ∧ b < s' ∧ s' - s ≤ pl' - pl ∧ kAg s K K' ∧ KOk s' K' ∧ (chA n T pl ≠ 120 → WE K'.1 K'.2.1 false s b 60) ∧ WE K'.1 K'.2.1 true b s' 60) ∧
  (∀ (d : Nat) σ, CL q n T pl s K σ → σ.1 q 0 = zI m → ∃ σ', f_LawReader_readClause (d + 41) q σ = rI (zI v) σ' ∧ Fr (SLc q m.toNat) σ σ' ∧ (v = 0 → CL q n T pl' s' K' σ' ∧ σ'.1 q 0 = zI (m + 1) ∧ σ'.1 (q + 1) m.toNat = zI (chA n T pl) ∧ σ'.1 (q + 2) m.toNat = zI s ∧ σ'.1 (q + 3) m.toNat = zI b ∧ σ'.1 (q + 4) m.toNat = zI s')) ∧
  (∀ (d : Nat) τ o wt Wt, ML n T pl o s K wt Wt τ → τ.1 102 15 = zI m → ∃ τ' o' wt' Wt', f_M_readsClause (d + 10) τ = rI (bz (decide (v = 0))) τ' ∧ Fr (SMcl m.toNat) τ τ' ∧ (v < 0 → τ'.1 102 10 = zI v) ∧ (v = 0 → ML n T pl' o' s' K' wt' Wt' τ' ∧ τ'.1 102 15 = zI (m + 1) ∧ τ'.1 111 m.toNat = zI (chA n T pl) ∧ τ'.1 112 m.toNat = zI s ∧ τ'.1 113 m.toNat = zI b ∧ τ'.1 114 m.toNat = zI s')) := by
  have n260 := hx.2.1
  have neq : q ≠ 5 := by rcases hq with rfl | rfl <;> decide
  obtain ⟨c0, c1, c2⟩ := hx.ch p0
  by_cases z : isKd (chA n T pl)
  · have pn : pl < n := c2 (by unfold isKd at z; omega)
    by_cases zm : m = 16
    · refine ⟨-4000 - pl, 0, 0, 0, K, by omega, by omega, fun y => by omega, fun d σ h em => ⟨σ, (cClause_sp hq h hx p0 p1 m0 m16 em (d := d + 39)).2.1 z zm, Fr.rf _ _, fun y => by omega⟩, fun d τ o wt Wt h em => ⟨_, 0, 0, fun _ => 0, by rw [bzn (by omega)]; exact (mClause_sp h hx p0 p1 m0 m16 em (d := d + 8)).2.1 z zm, (Fr.rf _ τ).sI (a := 102) (k := 10) (zI (-4000 - pl)) (by simp [SMcl, SLm]), fun _ => sI_same _ _ _ _, fun y => by omega⟩⟩
    · have m15 : m < 16 := by omega
      -- the states behind the letter
      have bN : ∀ σ, CL q n T pl s K σ → σ.1 q 0 = zI m → CL q n T (pl + 1) s K (sI (sI (sI σ 5 4 (zI (pl + 1))) (q + 1) m.toNat (zI (chA n T pl))) (q + 2) m.toNat (zI s)) ∧ (sI (sI (sI σ 5 4 (zI (pl + 1))) (q + 1) m.toNat (zI (chA n T pl))) (q + 2) m.toNat (zI s)).1 q 0 = zI m ∧ (sI (sI (sI σ 5 4 (zI (pl + 1))) (q + 1) m.toNat (zI (chA n T pl))) (q + 2) m.toNat (zI s)).1 (q + 1) m.toNat = zI (chA n T pl) ∧ (sI (sI (sI σ 5 4 (zI (pl + 1))) (q + 1) m.toNat (zI (chA n T pl))) (q + 2) m.toNat (zI s)).1 (q + 2) m.toNat = zI s ∧ Fr (SLc q m.toNat) σ (sI (sI (sI σ 5 4 (zI (pl + 1))) (q + 1) m.toNat (zI (chA n T pl))) (q + 2) m.toNat (zI s)) := fun σ h em => by
        refine ⟨((h.up hq (pl + 1)).row hq _ (by simp)).row hq _ (by simp), ?_, ?_, sI_same _ _ _ _, (((Fr.rf _ σ).sI _ (by simp [SLc, SLw])).sI _ (by simp [SLc])).sI _ (by simp [SLc])⟩
        · rw [sI_row _ _ _ _ _ (by omega), sI_row _ _ _ _ _ (by omega), sI_row _ _ _ _ _ neq]; exact em
        · rw [sI_row _ _ _ _ _ (by omega), sI_same]
      have bM : ∀ τ o wt Wt, ML n T pl o s K wt Wt τ → τ.1 102 15 = zI m → ML n T (pl + 1) 0 s K 0 (fun _ => 0) (sI (sI (sI (sI (sI τ 111 m.toNat (zI (chA n T pl))) 102 8 (zI (pl + 1))) 112 m.toNat (zI s)) 102 12 (zI 0)) 102 14 (zI 0)) ∧ (sI (sI (sI (sI (sI τ 111 m.toNat (zI (chA n T pl))) 102 8 (zI (pl + 1))) 112 m.toNat (zI s)) 102 12 (zI 0)) 102 14 (zI 0)).1 102 15 = zI m ∧ (sI (sI (sI (sI (sI τ 111 m.toNat (zI (chA n T pl))) 102 8 (zI (pl + 1))) 112 m.toNat (zI s)) 102 12 (zI 0)) 102 14 (zI 0)).1 111 m.toNat = zI (chA n T pl) ∧ (sI (sI (sI (sI (sI τ 111 m.toNat (zI (chA n T pl))) 102 8 (zI (pl + 1))) 112 m.toNat (zI s)) 102 12 (zI 0)) 102 14 (zI 0)).1 112 m.toNat = zI s ∧ Fr (SMcl m.toNat) τ (sI (sI (sI (sI (sI τ 111 m.toNat (zI (chA n T pl))) 102 8 (zI (pl + 1))) 112 m.toNat (zI s)) 102 12 (zI 0)) 102 14 (zI 0)) := fun τ o wt Wt h em => by
        refine ⟨zero_ML (((h.row _ (by simp)).up (pl + 1)).row _ (by simp)), ?_, ?_, ?_, (((((Fr.rf _ τ).sI _ (by simp [SMcl])).sI _ (by simp [SMcl, SLm])).sI _ (by simp [SMcl])).sI _ (by simp [SMcl, SLm])).sI _ (by simp [SMcl, SLm])⟩
        · rw [sI_slot _ _ _ _ (by decide), sI_slot _ _ _ _ (by decide), sI_row _ _ _ _ _ (by decide), sI_slot _ _ _ _ (by decide), sI_row _ _ _ _ _ (by decide)]; exact em
        · rw [sI_row _ _ _ _ _ (by decide), sI_row _ _ _ _ _ (by decide), sI_row _ _ _ _ _ (by decide), sI_row _ _ _ _ _ (by decide), sI_same]
        · rw [sI_row _ _ _ _ _ (by decide), sI_row _ _ _ _ _ (by decide), sI_same]
      by_cases z120 : chA n T pl = 120
      · obtain ⟨v, pl', s', K', b1, b2, b3, hN, hM⟩ := halfBoth hq hx n240 (pl + 1) s m K (by omega) (by omega) s0 (by omega) ok m0 m15
        refine ⟨v, pl', s', s, K', b1, b2, fun y => ?_, fun d σ h em => ?_, fun d τ o wt Wt h em => ?_⟩
        · obtain ⟨l0, l1, l2, l3, ag, ok', we⟩ := b3 y
          exact ⟨m15, z, by omega, l1, Int.le_refl _, l2, by omega, ag, ok', fun w => absurd z120 w, we⟩
        · obtain ⟨g1, g2, g3, g4, g5⟩ := bN σ h em
          obtain ⟨σ1, a1, a2, a3⟩ := hN d _ g1 g2
          refine ⟨σ1, ?_, g5.tr a2, fun y => ?_⟩
          · rw [(cClause_sp hq h hx p0 p1 m0 m16 em (d := d + 39)).2.2 z m15, if_pos z120]; exact a1
          · obtain ⟨e1, e2, e3, e4, e5, e6⟩ := a3 y
            exact ⟨e1, e2, e3.trans g3, e4.trans g4, e5, e6⟩
        · obtain ⟨g1, g2, g3, g4, g5⟩ := bM τ o wt Wt h em
          obtain ⟨τ1, o', wt', Wt', a1, a2, a4, a3⟩ := hM d _ 0 0 _ g1 g2
          refine ⟨τ1, o', wt', Wt', ?_, g5.tr a2, a4, fun y => ?_⟩
          · rw [(mClause_sp h hx p0 p1 m0 m16 em (d := d + 8)).2.2 z m15, if_pos z120]; exact a1
          · obtain ⟨e1, e2, e3, e4, e5, e6⟩ := a3 y
            exact ⟨e1, e2, e3.trans g3, e4.trans g4, e5, e6⟩
      · obtain ⟨v1, pl1, s1, K1, b1, b2, b3, hN1, hM1⟩ := sumBoth hq hx n240 (pl + 1) 0 s K (by omega) (by omega) (by decide) (by decide) s0 (by omega) ok
        have aN : ∀ (d : Nat) σ, CL q n T pl s K σ → σ.1 q 0 = zI m → ∃ σ', Fr (SLc q m.toNat) σ σ' ∧ (v1 = 0 → CL q n T pl1 s1 K1 σ') ∧ σ'.1 q 0 = zI m ∧ σ'.1 (q + 1) m.toNat = zI (chA n T pl) ∧ σ'.1 (q + 2) m.toNat = zI s ∧ f_LawReader_readClause (d + 41) q σ = if v1 = 0 then cBrk (d + 40) q (zI m) σ' else rI (zI v1) σ' := fun d σ h em => by
          obtain ⟨g1, g2, g3, g4, g5⟩ := bN σ h em
          obtain ⟨σ1, a1, a2, a3, a4⟩ := hN1 (d + 40) _ (by omega) g1
          have keep : ∀ a k, (a = q + 1 ∨ a = q + 2 ∨ a = q ∧ k = 0) → σ1.1 a k = (sI (sI (sI σ 5 4 (zI (pl + 1))) (q + 1) m.toNat (zI (chA n T pl))) (q + 2) m.toNat (zI s)).1 a k := fun a k ha => a2.2 a k (by rcases hq with rfl | rfl <;> rcases ha with rfl | rfl | ⟨rfl, rfl⟩ <;> rfl)
          refine ⟨σ1, g5.tr (a2.mono fun a k e => by simp only [SLc, Bool.or_eq_false_iff] at e; exact e.1.1), a4, (keep _ _ (by simp)).trans g2, (keep _ _ (by simp)).trans g3, (keep _ _ (by simp)).trans g4, ?_⟩
          have st := (cClause_sp hq h hx p0 p1 m0 m16 em (d := d + 39)).2.2 z m15
          rw [if_neg z120] at st
          refine st.trans ?_
          have a1 : f_LawReader_readSum (d + 39 + 1) q (zI 0) (sI (sI (sI σ 5 4 (zI (pl + 1))) (q + 1) m.toNat (zI (chA n T pl))) (q + 2) m.toNat (zI s)) = rI (zI v1) σ1 := a1
          rw [a1, cI_rI, ifV b2 b1]
        have aM : ∀ (d : Nat) τ o wt Wt, ML n T pl o s K wt Wt τ → τ.1 102 15 = zI m → ∃ τ', Fr (SMcl m.toNat) τ τ' ∧ (v1 < 0 → τ'.1 102 10 = zI v1) ∧ (v1 = 0 → ML n T pl1 0 s1 K1 0 (fun _ => 0) τ') ∧ τ'.1 102 15 = zI m ∧ τ'.1 111 m.toNat = zI (chA n T pl) ∧ τ'.1 112 m.toNat = zI s ∧ f_M_readsClause (d + 10) τ = if v1 = 0 then mCnd (d + 9) τ' else rI (zI 0) τ' := fun d τ o wt Wt h em => by
          obtain ⟨g1, g2, g3, g4, g5⟩ := bM τ o wt Wt h em
          obtain ⟨τ1, a1, a2, a3, a4⟩ := hM1 (d + 2) _ 0 (fun _ => 0) (by decide) (by omega) (fun j j0 j1 => by omega) (by decide) g1
          have keep : ∀ a k, (a = 111 ∨ a = 112 ∨ a = 102 ∧ k = 15) → τ1.1 a k = (sI (sI (sI (sI (sI τ 111 m.toNat (zI (chA n T pl))) 102 8 (zI (pl + 1))) 112 m.toNat (zI s)) 102 12 (zI 0)) 102 14 (zI 0)).1 a k := fun a k ha => a2.2 a k (by rcases ha with rfl | rfl | ⟨rfl, rfl⟩ <;> rfl)
          refine ⟨τ1, g5.tr (a2.mono fun a k e => by simp only [SMcl, Bool.or_eq_false_iff] at e; exact e.1.1), a3, a4, (keep _ _ (by simp)).trans g2, (keep _ _ (by simp)).trans g3, (keep _ _ (by simp)).trans g4, ?_⟩
          have st := (mClause_sp h hx p0 p1 m0 m16 em (d := d + 8)).2.2 z m15
          rw [if_neg z120] at st
          refine st.trans ?_
          have a1 : f_M_readsSum (d + 8 + 1) (sI (sI (sI (sI (sI τ 111 m.toNat (zI (chA n T pl))) 102 8 (zI (pl + 1))) 112 m.toNat (zI s)) 102 12 (zI 0)) 102 14 (zI 0)) = rI (bz (decide (v1 = 0))) τ1 := a1
          rw [a1, cI_rI, ifBz]
        by_cases v0 : v1 = 0
        · subst v0
          obtain ⟨l0, l1, l2, l3, ag, ok1, we1⟩ := b3 rfl
          obtain ⟨v, pl', s', K', e1, e2, e3, hN, hM⟩ := halfBoth hq hx n240 pl1 s1 m K1 (by omega) l1 (by omega) (by omega) ok1 m0 m15
          refine ⟨v, pl', s', s1, K', e1, e2, fun y => ?_, fun d σ h em => ?_, fun d τ o wt Wt h em => ?_⟩
          · obtain ⟨r0, r1, r2, r3, ag', ok', we⟩ := e3 y
            exact ⟨m15, z, by omega, r1, by omega, r2, by omega, ag.tr ag' (by omega), ok', fun _ => (we1 60 (by decide)).ag ag' s0 (Int.le_refl _), we⟩
          · obtain ⟨σ1, F1, h1, i0, i1, i2, st⟩ := aN d σ h em
            obtain ⟨σ2, a1, a2, a3⟩ := hN d _ (h1 rfl) i0
            refine ⟨σ2, by rw [st, if_pos rfl, a1], F1.tr a2, fun y => ?_⟩
            obtain ⟨e1, e2, e3, e4, e5, e6⟩ := a3 y
            exact ⟨e1, e2, e3.trans i1, e4.trans i2, e5, e6⟩
          · obtain ⟨τ1, F1, -, h1, i0, i1, i2, st⟩ := aM d τ o wt Wt h em
            obtain ⟨τ2, o', wt', Wt', a1, a2, a4, a3⟩ := hM d _ 0 0 _ (h1 rfl) i0
            refine ⟨τ2, o', wt', Wt', by rw [st, if_pos rfl, a1], F1.tr a2, a4, fun y => ?_⟩
            obtain ⟨e1, e2, e3, e4, e5, e6⟩ := a3 y
            exact ⟨e1, e2, e3.trans i1, e4.trans i2, e5, e6⟩
        · refine ⟨v1, 0, 0, 0, K, b1, b2, fun y => absurd y v0, fun d σ h em => ?_, fun d τ o wt Wt h em => ?_⟩
          · obtain ⟨σ1, F1, -, -, -, -, st⟩ := aN d σ h em
            exact ⟨σ1, by rw [st, if_neg v0], F1, fun y => absurd y v0⟩
          · obtain ⟨τ1, F1, f1, -, -, -, -, st⟩ := aM d τ o wt Wt h em
            exact ⟨τ1, 0, 0, fun _ => 0, by rw [st, if_neg v0, bzn (by omega)], F1, f1, fun y => absurd y v0⟩
  · refine ⟨-1000 - pl, 0, 0, 0, K, by omega, by omega, fun y => by omega, fun d σ h em => ⟨σ, (cClause_sp hq h hx p0 p1 m0 m16 em (d := d + 39)).1 z, Fr.rf _ _, fun y => by omega⟩, fun d τ o wt Wt h em => ⟨_, 0, 0, fun _ => 0, by rw [bzn (by omega)]; exact (mClause_sp h hx p0 p1 m0 m16 em (d := d + 8)).1 z, (Fr.rf _ τ).sI (a := 102) (k := 10) (zI (-1000 - pl)) (by simp [SMcl, SLm]), fun _ => sI_same _ _ _ _, fun y => by omega⟩⟩
