/-! law: parts, in both -/
theorem part_sp {q : Nat} {n : Int} {T : Int → Int} {pl s o i last : Int} {K : KK} {σ : Sg} (h : CL q n T pl s K σ) (hx : TX n T) (p0 : 0 ≤ pl) (p1 : pl ≤ n) (i0 : 0 ≤ i) (i1 : i ≤ pl) {d : Nat} : (chA n T pl ≠ 38 → f_LawReader_readPart_13 (d + 1) q (zI o) (zI last) (zI 0) (zI i) σ = cV (f_LawReader_endSkip (d + 1) q (zI last) σ) fun σ7 => rI (zI 0) σ7) ∧ (chA n T pl = 38 → f_LawReader_readPart_13 (d + 1) q (zI o) (zI last) (zI 0) (zI i) σ = cI (f_LawReader_emitSkip (d + 1) q (zI last) σ) fun v4 σ3 => cI (f_LawReader_readTest (d + 1) q (zI o) σ3) fun v6 σ5 => f_LawReader_readPart_13 (d + 1) q (zI o) v4 v6 (zI (i + 1)) σ5) := by
  obtain ⟨c0, c1, c2⟩ := hx.ch p0
  have n260 := hx.2.1
  have st : f_LawReader_readPart_13 (d + 1) q (zI o) (zI last) (zI 0) (zI i) σ = if i < n then (if chA n T pl = 38 then (cI (f_LawReader_emitSkip (d + 1) q (zI last) σ) fun v4 σ3 => cI (f_LawReader_readTest (d + 1) q (zI o) σ3) fun v6 σ5 => f_LawReader_readPart_13 (d + 1) q (zI o) v4 v6 (zI (i + 1)) σ5) else cV (f_LawReader_endSkip (d + 1) q (zI last) σ) fun σ7 => rI (zI 0) σ7) else cV (f_LawReader_endSkip (d + 1) q (zI last) σ) fun σ7 => rI (zI 0) σ7 := by
    rw [f_LawReader_readPart_13_eq, h.1.1.2.1, ifLe (by omega) (by omega), if0z, h.1.now hx p0 p1, cI_rI, show (38 : Int32) = zI 38 from zI_lit 38, ifEq (by omega) (by decide), show (1 : Int32) = zI 1 from zI_lit 1, zI_add]
  refine ⟨fun z => ?_, fun z => ?_⟩
  · rw [st, if_neg z]
    by_cases y : i < n
    · rw [if_pos y]
    · rw [if_neg y]
  · have pn : pl < n := c2 (by omega)
    rw [st, if_pos (by omega), if_pos z]
theorem part_bad {q : Nat} {a l i : Int32} {v : Int} (v0 : v ≠ 0) (b1 : -10000 < v) (b2 : v ≤ 0) {d : Nat} {σ : Sg} : f_LawReader_readPart_13 d q a l (zI v) i σ = cV (f_LawReader_endSkip d q l σ) fun σ7 => rI (zI v) σ7 := by
  rw [f_LawReader_readPart_13_eq]
  by_cases h : i < σ.1 5 3
  · rw [if_pos h, ifV b2 b1, if_neg v0]
  · rw [if_neg h]
theorem PLoop {q : Nat} (hq : isL q) {n : Int} {T : Int → Int} (hx : TX n T) (n240 : n ≤ 240) {F : Int} (hJ : JX q n T F) : ∀ (b : Nat) (pl o s0 s last : Int) (K : KK), n - pl ≤ b → n - pl ≤ F → 0 ≤ pl → pl ≤ n → 0 ≤ o → o ≤ 6 → 0 ≤ s0 → s0 < s → s ≤ pl → KOk s K → HK 38 11 o last s0 s K → ∃ (v pl' s' : Int) (K' : KK), -10000 < v ∧ v ≤ 0 ∧ (v = 0 → pl ≤ pl' ∧ pl' ≤ n ∧ s ≤ s' ∧ s' - s ≤ pl' - pl ∧ kAg s0 K K' ∧ KOk s' K' ∧ chA n T pl' ≠ 38 ∧ ∀ k, 16 - 2 * o ≤ k → WE K'.1 K'.2.1 true s0 s' k) ∧
  (∀ (d : Nat) σ i, 35 ≤ (d : Int) + 4 * o → 0 ≤ i → i ≤ pl → CL q n T pl s K σ → ∃ σ', f_LawReader_readPart_13 d q (zI o) (zI last) (zI 0) (zI i) σ = rI (zI v) σ' ∧ Fr (SLw q) σ σ' ∧ (v < 0 → SzOk q σ') ∧ (v = 0 → CL q n T pl' s' K' σ')) ∧
  (∀ (d : Nat) τ wt Wt, 1 ≤ wt → wt ≤ pl → BW wt Wt → (¬ (2 ≤ wtop wt Wt ∧ wtop wt Wt ≤ 6) ∧ wtop wt Wt ≠ 10 ∧ wtop wt Wt ≠ 11) → (last = -1 → ML n T pl o s K wt Wt τ) → (last ≠ -1 → ML n T pl o s K (wt + 1) (mup Wt wt (1048576 * 11 + last)) τ) → ∃ τ', lawD d τ = (if v = 0 then lawD d τ' else rI (zI 0) τ') ∧ Fr SLm τ τ' ∧ (v < 0 → τ'.1 102 10 = zI v) ∧ (v = 0 → LzP n T pl' o s' K' wt Wt τ')) := by
  intro b
  have n260 := hx.2.1
  have stay : ∀ (pl o s0 s last : Int) (K : KK), 0 ≤ pl → pl ≤ n → o ≤ 6 → 0 ≤ s0 → s ≤ pl → KOk s K → HK 38 11 o last s0 s K → chA n T pl ≠ 38 → ∃ (v pl' s' : Int) (K' : KK), -10000 < v ∧ v ≤ 0 ∧ (v = 0 → pl ≤ pl' ∧ pl' ≤ n ∧ s ≤ s' ∧ s' - s ≤ pl' - pl ∧ kAg s0 K K' ∧ KOk s' K' ∧ chA n T pl' ≠ 38 ∧ ∀ k, 16 - 2 * o ≤ k → WE K'.1 K'.2.1 true s0 s' k) ∧
  (∀ (d : Nat) σ i, 35 ≤ (d : Int) + 4 * o → 0 ≤ i → i ≤ pl → CL q n T pl s K σ → ∃ σ', f_LawReader_readPart_13 d q (zI o) (zI last) (zI 0) (zI i) σ = rI (zI v) σ' ∧ Fr (SLw q) σ σ' ∧ (v < 0 → SzOk q σ') ∧ (v = 0 → CL q n T pl' s' K' σ')) ∧
  (∀ (d : Nat) τ wt Wt, 1 ≤ wt → wt ≤ pl → BW wt Wt → (¬ (2 ≤ wtop wt Wt ∧ wtop wt Wt ≤ 6) ∧ wtop wt Wt ≠ 10 ∧ wtop wt Wt ≠ 11) → (last = -1 → ML n T pl o s K wt Wt τ) → (last ≠ -1 → ML n T pl o s K (wt + 1) (mup Wt wt (1048576 * 11 + last)) τ) → ∃ τ', lawD d τ = (if v = 0 then lawD d τ' else rI (zI 0) τ') ∧ Fr SLm τ τ' ∧ (v < 0 → τ'.1 102 10 = zI v) ∧ (v = 0 → LzP n T pl' o s' K' wt Wt τ')) := fun pl o s0 s last K p0 p1 o6 s00 sp ok hk z => by
    obtain ⟨hl, ok', ag', we'⟩ := hk.ends (Or.inl ⟨rfl, rfl⟩) s00 (by omega) ok
    have le : last ≠ -1 → K.2.2 last = 1048576 * 11 := fun y => by
      rcases hk with ⟨y', -⟩ | ⟨-, -, -, y', -⟩
      · exact absurd y' y
      · exact y'
    refine ⟨0, pl, s, endK 11 last s K, by decide, by decide, fun _ => ⟨Int.le_refl _, p1, Int.le_refl _, by omega, ag', ok', z, we'⟩, fun d σ i hd i0 i1 h => ?_, fun d τ wt Wt q0 q1 hb ht h1 h2 => ⟨τ, (if_pos rfl).symm, Fr.rf _ _, fun y => by omega, fun _ => stkP hl le h1 h2⟩⟩
    obtain ⟨e, rfl⟩ : ∃ e, d = e + 1 := ⟨d - 1, by omega⟩
    obtain ⟨σ1, a1, a2, a3⟩ := endSk_sp hq (op := 11) h (by omega) hl (d := e)
    exact ⟨σ1, by rw [(part_sp h hx p0 p1 i0 i1).1 z, a1, cV_rV], a2, fun y => by omega, fun _ => a3⟩
  induction b with
  | zero =>
    intro pl o s0 s last K hb hF p0 p1 o0 o6 s00 s01 sp ok hk
    refine stay pl o s0 s last K p0 p1 o6 s00 sp ok hk ?_
    have : chA n T pl = -1 := by unfold chA; rw [if_neg (by omega)]
    rw [this]; decide
  | succ b ih =>
    intro pl o s0 s last K hb hF p0 p1 o0 o6 s00 s01 sp ok hk
    by_cases z : chA n T pl = 38
    · obtain ⟨c0, c1, c2⟩ := hx.ch p0
      have pn : pl < n := c2 (by omega)
      obtain ⟨hl, ok', ag', we'⟩ := hk.ends (Or.inl ⟨rfl, rfl⟩) s00 (by omega) ok
      have le : last ≠ -1 → K.2.2 last = 1048576 * 11 := fun y => by
        rcases hk with ⟨y', -⟩ | ⟨-, -, -, y', -⟩
        · exact absurd y' y
        · exact y'
      have cd : isCd (chA n T pl) := by rw [z]; simp [isCd]
      have ok2 : KOk (s + 1) (kPut (endK 11 last s K) s (chA n T pl) 0 (1048576 * 11)) := ok'.put (by rw [z]; unfold CEq; decide)
      obtain ⟨v1, pl1, s1, K1, b1, b2, b3, hN, hM⟩ := hJ (pl + 1) o (s + 1) _ (by omega) (by omega) (by omega) o0 o6 (by omega) (by omega) ok2
      have aN : ∀ (e : Nat) σ i, 35 ≤ ((e + 2 : Nat) : Int) + 4 * o → 0 ≤ i → i ≤ pl → CL q n T pl s K σ → ∃ σ', Fr (SLw q) σ σ' ∧ (v1 < 0 → SzOk q σ') ∧ (v1 = 0 → CL q n T pl1 s1 K1 σ') ∧ f_LawReader_readPart_13 (e + 2) q (zI o) (zI last) (zI 0) (zI i) σ = f_LawReader_readPart_13 (e + 2) q (zI o) (zI s) (zI v1) (zI (i + 1)) σ' := fun e σ i hd i0 i1 h => by
        obtain ⟨σ1, a1, a2, a3⟩ := emitSk_sp hq (op := 11) h hx p0 p1 (by omega) (by omega) hl cd (d := e)
        obtain ⟨σ2, d1, d2, d3, d4⟩ := hN (e + 2) σ1 (by omega) a3
        exact ⟨σ2, a2.tr d2, d3, d4, by rw [(part_sp h hx p0 p1 i0 i1).2 z, a1, cI_rI, d1, cI_rI]⟩
      have aM : ∀ (d : Nat) τ wt Wt, 1 ≤ wt → wt ≤ pl → BW wt Wt → (¬ (2 ≤ wtop wt Wt ∧ wtop wt Wt ≤ 6) ∧ wtop wt Wt ≠ 10 ∧ wtop wt Wt ≠ 11) → (last = -1 → ML n T pl o s K wt Wt τ) → (last ≠ -1 → ML n T pl o s K (wt + 1) (mup Wt wt (1048576 * 11 + last)) τ) → ∃ τ', lawD d τ = (if v1 = 0 then lawD d τ' else rI (zI 0) τ') ∧ Fr SLm τ τ' ∧ (v1 < 0 → τ'.1 102 10 = zI v1) ∧ (v1 = 0 → ML n T pl1 o s1 K1 (wt + 1) (mup Wt wt (1048576 * 11 + s)) τ') := fun d τ wt Wt q0 q1 hb' ht h1 h2 => by
        have lz := stkP hl le h1 h2
        obtain ⟨τ1, a1, a2, a3⟩ := lawD_and hx p0 p1 lz z hb' (by omega) (by omega) (by omega) (by omega) ht.2.2 (d := d)
        rw [← z] at a3
        obtain ⟨τ2, e, d1, d2, d3, d4⟩ := hM d τ1 (wt + 1) _ (by omega) (by omega) (hb'.up (by omega) (by omega)) (by rw [wtop_up (by omega)]; omega) a3
        refine ⟨τ2, ?_, a2.tr d2, d3, d4⟩
        rw [a1, d1]
        by_cases y : v1 = 0
        · rw [if_pos y, if_pos y]
          unfold lawE
          rw [ep_stop (d4 y) (hb'.up (by omega) (by omega)) (by omega) (by omega) (by rw [wtop_up (by omega)]; omega), cV_rV]
        · rw [if_neg y, if_neg y]
      by_cases v0 : v1 = 0
      · subst v0
        obtain ⟨l0, l1, l2, l3, ag, ok1, we⟩ := b3 rfl
        have c1' : K1.1 s = 38 := (ag s (by omega) (by omega)).1.trans ((mup_same _ _ _).trans z)
        have m1' : K1.2.2 s = 1048576 * 11 := (ag s (by omega) (by omega)).2.2.trans (mup_same _ _ _)
        have hk1 : HK 38 11 o s s0 s1 K1 := Or.inr ⟨s01, by omega, c1', m1', fun k hk => ⟨WE.ag (WE.ag (we' k hk) (kAg_put _) s00 (Int.le_refl _)) ag s00 (by omega), we k hk⟩⟩
        obtain ⟨v, pl', s', K', e1, e2, e3, iN, iM⟩ := ih pl1 o s0 s1 s K1 (by omega) (by omega) (by omega) l1 o0 o6 s00 (by omega) (by omega) ok1 hk1
        refine ⟨v, pl', s', K', e1, e2, fun y => ?_, fun d σ i hd i0 i1 h => ?_, fun d τ wt Wt q0 q1 hb' ht h1 h2 => ?_⟩
        · obtain ⟨m0, m1, m2, m3, ag2, okk, te, wee⟩ := e3 y
          exact ⟨by omega, m1, by omega, by omega, ((ag'.tr (kAg_put _) (by omega)).tr ag (by omega)).tr ag2 (Int.le_refl _), okk, te, wee⟩
        · obtain ⟨e, rfl⟩ : ∃ e, d = e + 2 := ⟨d - 2, by omega⟩
          obtain ⟨σ1, a1, -, a3, a4⟩ := aN e σ i hd i0 i1 h
          obtain ⟨σ2, d1, d2⟩ := iN (e + 2) σ1 (i + 1) hd (by omega) (by omega) (a3 rfl)
          exact ⟨σ2, by rw [a4, d1], a1.tr d2.1, d2.2⟩
        · obtain ⟨τ1, a1, a2, -, a4⟩ := aM d τ wt Wt q0 q1 hb' ht h1 h2
          obtain ⟨τ2, d1, d2, d3⟩ := iM d τ1 wt Wt q0 (by omega) hb' ht (fun y => by omega) (fun _ => a4 rfl)
          exact ⟨τ2, by rw [a1, if_pos rfl, d1], a2.tr d2, d3⟩
      · refine ⟨v1, 0, 0, K, b1, b2, fun y => absurd y v0, fun d σ i hd i0 i1 h => ?_, fun d τ wt Wt q0 q1 hb' ht h1 h2 => ?_⟩
        · obtain ⟨e, rfl⟩ : ∃ e, d = e + 2 := ⟨d - 2, by omega⟩
          obtain ⟨σ1, a1, a2, -, a4⟩ := aN e σ i hd i0 i1 h
          obtain ⟨σ2, d1, d2, d3⟩ := endSk_any hq (last := s) (a2 (by omega)) (Or.inr ⟨by omega, by omega⟩) (d := e + 1)
          have d1 : f_LawReader_endSkip (e + 2) q (zI s) σ1 = rV σ2 := d1
          exact ⟨σ2, by rw [a4, part_bad v0 b1 b2, d1, cV_rV], a1.tr d2, fun _ => d3, fun y => absurd y v0⟩
        · obtain ⟨τ1, a1, a2, a3, -⟩ := aM d τ wt Wt q0 q1 hb' ht h1 h2
          exact ⟨τ1, a1, a2, a3, fun y => absurd y v0⟩
    · exact stay pl o s0 s last K p0 p1 o6 s00 sp ok hk z
theorem JP_of {q : Nat} (hq : isL q) {n : Int} {T : Int → Int} (hx : TX n T) (n240 : n ≤ 240) {F : Int} (hJ : JX q n T F) : JP q n T F := by
  intro pl o s K hF p0 p1 o0 o6 s0 sp ok
  have n260 := hx.2.1
  obtain ⟨v1, pl1, s1, K1, b1, b2, b3, hN, hM⟩ := hJ pl o s K hF p0 p1 o0 o6 s0 sp ok
  by_cases v0 : v1 = 0
  · subst v0
    obtain ⟨l0, l1, l2, l3, ag, ok1, we1⟩ := b3 rfl
    obtain ⟨v, pl', s', K', e1, e2, e3, iN, iM⟩ := PLoop hq hx n240 hJ (n - pl1).toNat pl1 o s s1 (-1) K1 (by omega) (by omega) (by omega) l1 o0 o6 s0 l2 (by omega) ok1 (Or.inl ⟨rfl, we1⟩)
    refine ⟨v, pl', s', K', e1, e2, fun y => ?_, fun d σ hd h => ?_, fun d τ wt Wt q0 q1 hb ht hu hw h => ?_⟩
    · obtain ⟨m0, m1, m2, m3, ag', ok', te, we'⟩ := e3 y
      exact ⟨by omega, m1, by omega, by omega, ag.tr ag' (Int.le_refl _), ok', te, we'⟩
    · obtain ⟨e, rfl⟩ : ∃ e, d = e + 1 := ⟨d - 1, by omega⟩
      obtain ⟨σ1, a1, a2, -, a4⟩ := hN e σ (by omega) h
      obtain ⟨σ2, d1, d2, d3⟩ := iN e σ1 0 (by omega) (by decide) (by omega) (a4 rfl)
      refine ⟨σ2, ?_, a2.tr d2, d3⟩
      rw [f_LawReader_readPart_eq, a1, cI_rI, zI_0]
      exact d1
    · obtain ⟨τ1, e, a1, a2, -, a4⟩ := hM d τ wt Wt q0 q1 hb ht h
      obtain ⟨τ2, d1, d2, d3⟩ := iM d τ1 wt Wt q0 (by omega) hb ⟨ht, hu, hw⟩ (fun _ => a4 rfl) (fun y => absurd rfl y)
      refine ⟨τ2, ?_, a2.tr d2, d3⟩
      rw [a1, if_pos rfl]
      unfold lawE
      rw [ep_stop (a4 rfl) hb (by omega) (by omega) hu, cV_rV, d1]
  · refine ⟨v1, 0, 0, K, b1, b2, fun y => absurd y v0, fun d σ hd h => ?_, fun d τ wt Wt q0 q1 hb ht hu hw h => ?_⟩
    · obtain ⟨e, rfl⟩ : ∃ e, d = e + 2 := ⟨d - 2, by omega⟩
      obtain ⟨σ1, a1, a2, a3, -⟩ := hN (e + 1) σ (by omega) h
      obtain ⟨σ2, d1, d2, d3⟩ := endSk_any hq (last := -1) (a3 (by omega)) (Or.inl rfl) (d := e)
      exact ⟨σ2, by rw [f_LawReader_readPart_eq, a1, cI_rI, part_bad v0 b1 b2, show ((-1) : Int32) = zI (-1) from rfl, d1, cV_rV], a2.tr d2, fun _ => d3, fun y => absurd y v0⟩
    · obtain ⟨τ1, e, a1, a2, a3, -⟩ := hM d τ wt Wt q0 q1 hb ht h
      exact ⟨τ1, by rw [a1, if_neg v0, if_neg v0], a2, a3, fun y => absurd y v0⟩
