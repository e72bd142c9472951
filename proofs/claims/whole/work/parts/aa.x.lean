/-! law: sums, in both: joined -/
theorem SLoop {q : Nat} (hq : isL q) {n : Int} {T : Int → Int} (hx : TX n T) (n240 : n ≤ 240) {F : Int} (hF : JT q n T F) : ∀ (b : Nat) (pl o s0 s : Int) (K : KK), n - pl ≤ b → n - pl ≤ F → 0 ≤ pl → pl ≤ n → 0 ≤ o → o ≤ 6 → 0 ≤ s0 → s0 < s → s ≤ pl → KOk s K → lsgn (chA n T pl) < 4 → (∀ k, 15 - 2 * o ≤ k → WE K.1 K.2.1 false s0 s k) → ∃ (v pl' s' : Int) (K' : KK), -10000 < v ∧ v ≤ 0 ∧ (v = 0 → pl ≤ pl' ∧ pl' ≤ n ∧ s ≤ s' ∧ s' - s ≤ pl' - pl ∧ kAg s K K' ∧ KOk s' K' ∧ lsgn (chA n T pl') = -1 ∧ ∀ k, 15 - 2 * o ≤ k → WE K'.1 K'.2.1 false s0 s' k) ∧
  (∀ (d : Nat) σ i, 27 ≤ (d : Int) + 3 * o → 0 ≤ i → i ≤ pl → CL q n T pl s K σ → ∃ σ', f_LawReader_readSum_16 d q (zI o) (zI 0) (zI (chA n T pl)) (zI i) σ = rI (zI v) σ' ∧ Fr (SLw q) σ σ' ∧ (v < 0 → SzOk q σ') ∧ (v = 0 → CL q n T pl' s' K' σ')) ∧
  (∀ (d : Nat) τ base wt Wt, 0 ≤ base → base ≤ wt → wt ≤ pl → BW wt Wt → ¬ (2 ≤ wtop wt Wt ∧ wtop wt Wt ≤ 6) → LzS n T pl o s K wt Wt τ → ∃ τ', lawS d base τ = (if v = 0 then lawS d base τ' else rI (zI 0) τ') ∧ Fr SLm τ τ' ∧ (v < 0 → τ'.1 102 10 = zI v) ∧ (v = 0 → LzS n T pl' o s' K' wt Wt τ')) := by
  intro b
  have stay : ∀ (pl o s0 s : Int) (K : KK), 0 ≤ pl → pl ≤ n → 0 ≤ s0 → KOk s K → (∀ k, 15 - 2 * o ≤ k → WE K.1 K.2.1 false s0 s k) → lsgn (chA n T pl) = -1 → ∃ (v pl' s' : Int) (K' : KK), -10000 < v ∧ v ≤ 0 ∧ (v = 0 → pl ≤ pl' ∧ pl' ≤ n ∧ s ≤ s' ∧ s' - s ≤ pl' - pl ∧ kAg s K K' ∧ KOk s' K' ∧ lsgn (chA n T pl') = -1 ∧ ∀ k, 15 - 2 * o ≤ k → WE K'.1 K'.2.1 false s0 s' k) ∧
  (∀ (d : Nat) σ i, 27 ≤ (d : Int) + 3 * o → 0 ≤ i → i ≤ pl → CL q n T pl s K σ → ∃ σ', f_LawReader_readSum_16 d q (zI o) (zI 0) (zI (chA n T pl)) (zI i) σ = rI (zI v) σ' ∧ Fr (SLw q) σ σ' ∧ (v < 0 → SzOk q σ') ∧ (v = 0 → CL q n T pl' s' K' σ')) ∧
  (∀ (d : Nat) τ base wt Wt, 0 ≤ base → base ≤ wt → wt ≤ pl → BW wt Wt → ¬ (2 ≤ wtop wt Wt ∧ wtop wt Wt ≤ 6) → LzS n T pl o s K wt Wt τ → ∃ τ', lawS d base τ = (if v = 0 then lawS d base τ' else rI (zI 0) τ') ∧ Fr SLm τ τ' ∧ (v < 0 → τ'.1 102 10 = zI v) ∧ (v = 0 → LzS n T pl' o s' K' wt Wt τ')) := fun pl o s0 s K p0 p1 _ ok we z => ⟨0, pl, s, K, by decide, by decide, fun _ => ⟨Int.le_refl _, p1, Int.le_refl _, by omega, kAg.rf _ _, ok, z, we⟩, fun d σ i _ i0 i1 h => ⟨σ, (sum_sp hq h hx p0 p1 i0 i1).1 (by omega), Fr.rf _ _, fun y => by omega, fun _ => h⟩, fun d τ base wt Wt _ _ _ _ _ h => ⟨τ, (if_pos rfl).symm, Fr.rf _ _, fun y => by omega, fun _ => h⟩⟩
  induction b with
  | zero =>
    intro pl o s0 s K hb hF' p0 p1 o0 o6 s00 s01 sp ok en we
    refine stay pl o s0 s K p0 p1 s00 ok we ?_
    have : chA n T pl = -1 := by unfold chA; rw [if_neg (by omega)]
    rw [this]; decide
  | succ b ih =>
    intro pl o s0 s K hb hF' p0 p1 o0 o6 s00 s01 sp ok en we
    by_cases z : lsgn (chA n T pl) = -1
    · exact stay pl o s0 s K p0 p1 s00 ok we z
    · obtain ⟨g0, g1, g2, g3⟩ := lsgn_b (chA n T pl)
      have z : lsgn (chA n T pl) = 2 ∨ lsgn (chA n T pl) = 3 := by omega
      have ne : chA n T pl ≠ -1 := fun y => by rw [y] at z; exact absurd z (by decide)
      obtain ⟨c0, c1, c2⟩ := hx.ch p0
      have pn : pl < n := c2 (by omega)
      obtain ⟨v1, pl1, s1, K1, b1, b2, b3, hN, hM⟩ := hF (pl + 1) o s K (by omega) (by omega) (by omega) o0 o6 (by omega) (by omega) ok
      have aM : ∀ (d : Nat) τ base wt Wt, 0 ≤ base → base ≤ wt → wt ≤ pl → BW wt Wt → ¬ (2 ≤ wtop wt Wt ∧ wtop wt Wt ≤ 6) → LzS n T pl o s K wt Wt τ → ∃ τ', lawS d base τ = (if v1 = 0 then lawS d base τ' else rI (zI 0) τ') ∧ Fr SLm τ τ' ∧ (v1 < 0 → τ'.1 102 10 = zI v1) ∧ (v1 = 0 → LzT n T pl1 o s1 K1 (wt + 1) (mup Wt wt (1048576 * lsgn (chA n T pl))) τ') := fun d τ base wt Wt q0 q1 q2 hb' ht h => by
        obtain ⟨τ1, d1, d2, d3⟩ := closeS_all h hb' (by omega) (by omega) (by omega) ht (d := d + 3)
        have d1 : f_M_closesSums (d + 6) (zI 1) τ = rV τ1 := d1
        obtain ⟨τ2, e1, e2, e3⟩ := lawS_sgn (base := base) hx p0 p1 h.mp (by omega) (by rw [if_pos (by omega)]; exact d1) d3 (by omega) (by omega)
        obtain ⟨τ3, f1, f2, f3, f4⟩ := hM d τ2 base (wt + 1) _ q0 (by omega) (by omega) (hb'.up (by omega) (by omega)) (by rw [wtop_up (by omega)]; omega) e3
        exact ⟨τ3, by rw [e1, f1], (d2.tr e2).tr f2, f3, f4⟩
      by_cases v0 : v1 = 0
      · subst v0
        obtain ⟨l0, l1, l2, l3, ag, ok1, sg1, we1⟩ := b3 rfl
        have aN : ∀ (d : Nat) σ i, 27 ≤ (d : Int) + 3 * o → 0 ≤ i → i ≤ pl → CL q n T pl s K σ → ∃ σ', Fr (SLw q) σ σ' ∧ CL q n T pl1 (s1 + 1) (kPut K1 s1 (chA n T pl) 0 (1048576 * lsgn (chA n T pl))) σ' ∧ isCd (chA n T pl) ∧ CEq (chA n T pl) 0 (1048576 * lsgn (chA n T pl)) ∧ (chA n T pl = 43 ∨ chA n T pl = 45) ∧ f_LawReader_readSum_16 d q (zI o) (zI 0) (zI (chA n T pl)) (zI i) σ = f_LawReader_readSum_16 d q (zI o) (zI 0) (zI (chA n T pl1)) (zI (i + 1)) σ' := fun d σ i hd i0 i1 h => by
          obtain ⟨t1, t2, t3, t4⟩ := (sum_sp hq h hx p0 p1 i0 i1 (o := o) (d := d)).2 z
          obtain ⟨σ1, a1, a2, -, a4⟩ := hN d _ hd (h.up hq (pl + 1))
          obtain ⟨e, rfl⟩ : ∃ e, d = e + 1 := ⟨d - 1, by omega⟩
          obtain ⟨σ2, d1, d2, d3⟩ := emit_sp hq (a4 rfl) t1 (by omega) (by omega) (w := 0) (m := 1048576 * lsgn (chA n T pl)) (d := e)
          refine ⟨σ2, (((Fr.rf _ σ).sI _ (by simp [SLw])).tr a2).tr d2, d3, t1, t2, t3, ?_⟩
          rw [t4, a1, cI_rI, d1, cV_rV, d3.1.now hx (by omega) l1, cI_rI]
        -- the sign's kind, by any state: by the text alone
        have kd : isCd (chA n T pl) ∧ CEq (chA n T pl) 0 (1048576 * lsgn (chA n T pl)) ∧ (chA n T pl = 43 ∨ chA n T pl = 45) := by
          have y : chA n T pl = 43 ∨ chA n T pl = 45 := by
            refine Classical.byContradiction fun y => ?_
            have : lsgn (chA n T pl) ≠ 2 ∧ lsgn (chA n T pl) ≠ 3 := by
              unfold lsgn
              repeat' split
              all_goals omega
            omega
          rcases y with y | y <;> rw [y] <;> exact ⟨by simp [isCd], by unfold CEq; decide, by decide⟩
        obtain ⟨k1, k2, k3⟩ := kd
        have we2 : ∀ k, 15 - 2 * o ≤ k → WE (kPut K1 s1 (chA n T pl) 0 (1048576 * lsgn (chA n T pl))).1 (kPut K1 s1 (chA n T pl) 0 (1048576 * lsgn (chA n T pl))).2.1 false s0 (s1 + 1) k := fun k hk => by
          refine WE.op (m := s) (WE.ag ((we k hk).ag ag s00 (Int.le_refl _)) (kAg_put K1) s00 (by omega)) (WE.ag (we1 (k - 1) (by omega)) (kAg_put K1) (by omega) (Int.le_refl _)) ?_
          rw [show (kPut K1 s1 (chA n T pl) 0 (1048576 * lsgn (chA n T pl))).1 s1 = chA n T pl from mup_same _ _ _]
          omega
        obtain ⟨v, pl', s', K', e1, e2, e3, iN, iM⟩ := ih pl1 o s0 (s1 + 1) _ (by omega) (by omega) (by omega) l1 o0 o6 s00 (by omega) (by omega) (ok1.put k2) sg1 we2
        refine ⟨v, pl', s', K', e1, e2, fun y => ?_, fun d σ i hd i0 i1 h => ?_, fun d τ base wt Wt q0 q1 q2 hb' ht h => ?_⟩
        · obtain ⟨m0, m1, m2, m3, ag', ok', sg, we'⟩ := e3 y
          exact ⟨by omega, m1, by omega, by omega, (ag.tr (kAg_put K1) (by omega)).tr ag' (by omega), ok', sg, we'⟩
        · obtain ⟨σ1, a1, a2, -, -, -, a3⟩ := aN d σ i hd i0 i1 h
          obtain ⟨σ2, d1, d2, d3⟩ := iN d σ1 (i + 1) hd (by omega) (by omega) a2
          exact ⟨σ2, by rw [a3, d1], a1.tr d2, d3⟩
        · obtain ⟨τ1, a1, a2, -, a4⟩ := aM d τ base wt Wt q0 q1 q2 hb' ht h
          have lz : LzS n T pl1 o (s1 + 1) (kPut K1 s1 (chA n T pl) 0 (1048576 * lsgn (chA n T pl))) wt Wt τ1 := Or.inr ⟨lsgn (chA n T pl), by omega, by omega, by omega, by rw [show s1 + 1 - 1 = s1 by omega]; exact mup_same _ _ _, by rw [show s1 + 1 - 1 = s1 by omega]; exact (a4 rfl).put⟩
          obtain ⟨τ2, d1, d2, d3⟩ := iM d τ1 base wt Wt q0 q1 (by omega) hb' ht lz
          exact ⟨τ2, by rw [a1, if_pos rfl, d1], a2.tr d2, d3⟩
      · refine ⟨v1, 0, 0, K, b1, b2, fun y => absurd y v0, fun d σ i hd i0 i1 h => ?_, fun d τ base wt Wt q0 q1 q2 hb' ht h => ?_⟩
        · obtain ⟨t1, t2, t3, t4⟩ := (sum_sp hq h hx p0 p1 i0 i1 (o := o) (d := d)).2 z
          obtain ⟨σ1, a1, a2, a3, -⟩ := hN d _ hd (h.up hq (pl + 1))
          obtain ⟨e, rfl⟩ : ∃ e, d = e + 1 := ⟨d - 1, by omega⟩
          obtain ⟨σ2, d1, d2, d3⟩ := emit_any hq (a3 (by omega)) (zI (chA n T pl)) (zI 0) e
          obtain ⟨w, hw⟩ := now_any e σ2
          refine ⟨σ2, ?_, (((Fr.rf _ σ).sI _ (by simp [SLw])).tr a2).tr d2, fun _ => d3, fun y => absurd y v0⟩
          rw [t4, a1, cI_rI, d1, cV_rV, hw, cI_rI, sum_bad v0 b1 b2]
        · obtain ⟨τ1, a1, a2, a3, -⟩ := aM d τ base wt Wt q0 q1 q2 hb' ht h
          exact ⟨τ1, a1, a2, a3, fun y => absurd y v0⟩
theorem JS_of {q : Nat} (hq : isL q) {n : Int} {T : Int → Int} (hx : TX n T) (n240 : n ≤ 240) {F : Int} (hF : JT q n T F) : JS q n T F := by
  intro pl o s K hF' p0 p1 o0 o6 s0 sp ok
  obtain ⟨v1, pl1, s1, K1, b1, b2, b3, hN, hM⟩ := hF pl o s K hF' p0 p1 o0 o6 s0 sp ok
  by_cases v0 : v1 = 0
  · subst v0
    obtain ⟨l0, l1, l2, l3, ag, ok1, sg1, we1⟩ := b3 rfl
    obtain ⟨v, pl', s', K', e1, e2, e3, iN, iM⟩ := SLoop hq hx n240 hF (n - pl1).toNat pl1 o s s1 K1 (by omega) (by omega) (by omega) l1 o0 o6 s0 l2 (by omega) ok1 sg1 (fun k hk => we1 k (by omega))
    refine ⟨v, pl', s', K', e1, e2, fun y => ?_, fun d σ hd h => ?_, fun d τ base wt Wt q0 q1 q2 hb ht h => ?_⟩
    · obtain ⟨m0, m1, m2, m3, ag', ok', sg, we'⟩ := e3 y
      exact ⟨by omega, m1, by omega, by omega, ag.tr ag' (by omega), ok', sg, we'⟩
    · obtain ⟨e, rfl⟩ : ∃ e, d = e + 2 := ⟨d - 2, by omega⟩
      obtain ⟨σ1, a1, a2, -, a4⟩ := hN (e + 1) σ (by omega) h
      have h1 := a4 rfl
      obtain ⟨σ2, d1, d2, d3⟩ := iN (e + 1) σ1 0 (by omega) (by decide) (by omega) h1
      refine ⟨σ2, ?_, a2.tr d2, d3⟩
      rw [f_LawReader_readSum_eq, a1, cI_rI, h1.1.now hx (by omega) l1, cI_rI, zI_0]
      exact d1
    · obtain ⟨τ1, a1, a2, -, a4⟩ := hM d τ base wt Wt q0 q1 q2 hb (by omega) h
      obtain ⟨τ2, d1, d2, d3⟩ := iM d τ1 base wt Wt q0 q1 (by omega) hb ht (Or.inl (a4 rfl))
      exact ⟨τ2, by rw [a1, if_pos rfl, d1], a2.tr d2, d3⟩
  · refine ⟨v1, 0, 0, K, b1, b2, fun y => absurd y v0, fun d σ hd h => ?_, fun d τ base wt Wt q0 q1 q2 hb ht h => ?_⟩
    · obtain ⟨e, rfl⟩ : ∃ e, d = e + 2 := ⟨d - 2, by omega⟩
      obtain ⟨σ1, a1, a2, a3, -⟩ := hN (e + 1) σ (by omega) h
      obtain ⟨w, hw⟩ := now_any e σ1
      refine ⟨σ1, ?_, a2, a3, fun y => absurd y v0⟩
      rw [f_LawReader_readSum_eq, a1, cI_rI, hw, cI_rI, sum_bad v0 b1 b2]
    · obtain ⟨τ1, a1, a2, a3, -⟩ := hM d τ base wt Wt q0 q1 q2 hb (by omega) h
      exact ⟨τ1, a1, a2, a3, fun y => absurd y v0⟩
theorem JS_all {q : Nat} (hq : isL q) {n : Int} {T : Int → Int} (hx : TX n T) (n240 : n ≤ 240) : ∀ F : Nat, JS q n T F := by
  intro F
  induction F with
  | zero =>
    have e : JS q n T (0 - 1) := fun pl o s K hF p0 p1 => by omega
    exact JS_of hq hx n240 (JT_of hq hx n240 (JF_of hq hx n240 e))
  | succ F ih =>
    refine JS_of hq hx n240 (JT_of hq hx n240 (JF_of hq hx n240 ?_))
    have : ((F + 1 : Nat) : Int) - 1 = (F : Int) := by omega
    rw [this]
    exact ih
/-- a sum, called: from its first place to its end -/
theorem sumBoth {q : Nat} (hq : isL q) {n : Int} {T : Int → Int} (hx : TX n T) (n240 : n ≤ 240) (pl o s : Int) (K : KK) (p0 : 0 ≤ pl) (p1 : pl ≤ n) (o0 : 0 ≤ o) (o6 : o ≤ 6) (s0 : 0 ≤ s) (sp : s ≤ pl) (ok : KOk s K) : ∃ (v pl' s' : Int) (K' : KK), -10000 < v ∧ v ≤ 0 ∧ (v = 0 → pl < pl' ∧ pl' ≤ n ∧ s < s' ∧ s' - s ≤ pl' - pl ∧ kAg s K K' ∧ KOk s' K' ∧ ∀ k, 15 - 2 * o ≤ k → WE K'.1 K'.2.1 false s s' k) ∧
  (∀ (d : Nat) σ, 28 ≤ (d : Int) + 3 * o → CL q n T pl s K σ → ∃ σ', f_LawReader_readSum d q (zI o) σ = rI (zI v) σ' ∧ Fr (SLw q) σ σ' ∧ (v < 0 → SzOk q σ') ∧ (v = 0 → CL q n T pl' s' K' σ')) ∧
  (∀ (d : Nat) τ wt Wt, 0 ≤ wt → wt ≤ pl → BW wt Wt → ¬ (2 ≤ wtop wt Wt ∧ wtop wt Wt ≤ 6) → ML n T pl o s K wt Wt τ → ∃ τ', f_M_readsSum (d + 7) τ = rI (bz (decide (v = 0))) τ' ∧ Fr SLm τ τ' ∧ (v < 0 → τ'.1 102 10 = zI v) ∧ (v = 0 → ML n T pl' o s' K' wt Wt τ')) := by
  have n260 := hx.2.1
  obtain ⟨v, pl', s', K', b1, b2, b3, hN, hM⟩ := JS_all hq hx n240 (n - pl).toNat pl o s K (by omega) p0 p1 o0 o6 s0 sp ok
  refine ⟨v, pl', s', K', b1, b2, fun y => ?_, hN, fun d τ wt Wt w0 w1 hb ht h => ?_⟩
  · obtain ⟨m0, m1, m2, m3, ag', ok', sg, we'⟩ := b3 y
    exact ⟨m0, m1, m2, m3, ag', ok', we'⟩
  · obtain ⟨τ1, a1, a2, a3, a4⟩ := hM d τ wt wt Wt w0 (Int.le_refl _) w1 hb ht h
    have e : f_M_readsSum (d + 7) τ = lawF d wt τ := by
      rw [f_M_readsSum_eq, h.2.2.2.1]
      rfl
    by_cases v0 : v = 0
    · subst v0
      obtain ⟨m0, m1, m2, m3, ag', ok', sg, we'⟩ := b3 rfl
      obtain ⟨τ2, d1, d2, d3⟩ := lawS_end hx (show 0 ≤ pl' by omega) m1 (a4 rfl) sg hb w0 (by omega) (by omega) ht (d := d)
      exact ⟨τ2, by rw [e, a1, if_pos rfl, d1, bzz], a2.tr d2, fun y => by omega, fun _ => d3⟩
    · exact ⟨τ1, by rw [e, a1, if_neg v0, bzn (by omega)], a2, a3, fun y => absurd y v0⟩
