/-! law: terms and sums, in both -/
theorem term_bad {q : Nat} {a c i : Int32} {v : Int} (v0 : v ≠ 0) (b1 : -10000 < v) (b2 : v ≤ 0) {d : Nat} {σ : Sg} : f_LawReader_readTerm_16 d q a (zI v) c i σ = rI (zI v) σ := by
  rw [f_LawReader_readTerm_16_eq]
  by_cases h : i < σ.1 5 3
  · rw [if_pos h, ifV b2 b1, if_neg v0]
  · rw [if_neg h]
theorem sum_bad {q : Nat} {a c i : Int32} {v : Int} (v0 : v ≠ 0) (b1 : -10000 < v) (b2 : v ≤ 0) {d : Nat} {σ : Sg} : f_LawReader_readSum_16 d q a (zI v) c i σ = rI (zI v) σ := by
  rw [f_LawReader_readSum_16_eq]
  by_cases h : i < σ.1 5 3
  · rw [if_pos h, ifV b2 b1, if_neg v0]
  · rw [if_neg h]
theorem term_sp {q : Nat} (hq : isL q) {n : Int} {T : Int → Int} {pl s o i : Int} {K : KK} {σ : Sg} (h : CL q n T pl s K σ) (hx : TX n T) (p0 : 0 ≤ pl) (p1 : pl ≤ n) (i0 : 0 ≤ i) (i1 : i ≤ pl) {d : Nat} : (lsgn (chA n T pl) < 4 → f_LawReader_readTerm_16 d q (zI o) (zI 0) (zI (chA n T pl)) (zI i) σ = rI (zI 0) σ) ∧ (4 ≤ lsgn (chA n T pl) → isCd (chA n T pl) ∧ CEq (chA n T pl) 0 (1048576 * lsgn (chA n T pl)) ∧ (chA n T pl = 42 ∨ chA n T pl = 47 ∨ chA n T pl = 37) ∧ f_LawReader_readTerm_16 d q (zI o) (zI 0) (zI (chA n T pl)) (zI i) σ = (cI (f_LawReader_readFactor d q (zI o) (sI σ 5 4 (zI (pl + 1)))) fun v3 σ2 => cV (f_Law_emit d q (zI (chA n T pl)) (zI 0) σ2) fun σ4 => cI (f_Tape_now d σ4) fun v6 σ5 => f_LawReader_readTerm_16 d q (zI o) v3 v6 (zI (i + 1)) σ5)) := by
  obtain ⟨c0, c1, c2⟩ := hx.ch p0
  have n260 := hx.2.1
  generalize hc : chA n T pl = c at c0 c1 c2
  have st : f_LawReader_readTerm_16 d q (zI o) (zI 0) (zI c) (zI i) σ = if i < n then (if c = 42 then (cI (f_LawReader_readFactor d q (zI o) (sI σ 5 4 (zI (pl + 1)))) fun v3 σ2 => gdK 2 q (cV (f_Law_emit d q (((zI c).toUInt32 % 65536).toInt32) (zI 0) σ2) fun σ4 => cI (f_Tape_now d σ4) fun v6 σ5 => f_LawReader_readTerm_16 d q (zI o) v3 v6 (zI (i + 1)) σ5)) else if c = 47 then (cI (f_LawReader_readFactor d q (zI o) (sI σ 5 4 (zI (pl + 1)))) fun v3 σ2 => gdK 2 q (cV (f_Law_emit d q (((zI c).toUInt32 % 65536).toInt32) (zI 0) σ2) fun σ4 => cI (f_Tape_now d σ4) fun v6 σ5 => f_LawReader_readTerm_16 d q (zI o) v3 v6 (zI (i + 1)) σ5)) else if c = 37 then (cI (f_LawReader_readFactor d q (zI o) (sI σ 5 4 (zI (pl + 1)))) fun v3 σ2 => gdK 2 q (cV (f_Law_emit d q (((zI c).toUInt32 % 65536).toInt32) (zI 0) σ2) fun σ4 => cI (f_Tape_now d σ4) fun v6 σ5 => f_LawReader_readTerm_16 d q (zI o) v3 v6 (zI (i + 1)) σ5)) else rI (zI 0) σ) else rI (zI 0) σ := by
    rw [f_LawReader_readTerm_16_eq, h.1.1.2.1, ifLe (by omega) (by omega), if0z, show (42 : Int32) = zI 42 from zI_lit 42, ifEq (by omega) (by decide), show (47 : Int32) = zI 47 from zI_lit 47, ifEq (by omega) (by decide), show (37 : Int32) = zI 37 from zI_lit 37, ifEq (by omega) (by decide)]
    dsimp only
    rw [h.1.nx, show (1 : Int32) = zI 1 from zI_lit 1, zI_add, zI_0]
  have hit : c = 42 ∨ c = 47 ∨ c = 37 → isCd c ∧ CEq c 0 (1048576 * lsgn c) ∧ lsgn c ≥ 4 := fun z => by
    rcases z with rfl | rfl | rfl
    · exact ⟨by simp [isCd], by unfold CEq; decide, by decide⟩
    · exact ⟨by simp [isCd], by unfold CEq; decide, by decide⟩
    · exact ⟨by simp [isCd], by unfold CEq; decide, by decide⟩
  have mis : ¬ (c = 42 ∨ c = 47 ∨ c = 37) → lsgn c < 4 := fun z => by
    unfold lsgn
    repeat' split
    all_goals omega
  refine ⟨fun z => ?_, fun z => ?_⟩
  · have nz : ¬ (c = 42 ∨ c = 47 ∨ c = 37) := fun y => by have := (hit y).2.2; omega
    rw [st, if_neg (fun y => nz (Or.inl y)), if_neg (fun y => nz (Or.inr (Or.inl y))), if_neg (fun y => nz (Or.inr (Or.inr y)))]
    by_cases y : i < n
    · rw [if_pos y]
    · rw [if_neg y]
  · have hz : c = 42 ∨ c = 47 ∨ c = 37 := Classical.byContradiction fun y => by have := mis y; omega
    obtain ⟨e1, e2, -⟩ := hit hz
    have pn : pl < n := c2 (by omega)
    refine ⟨e1, e2, hz, ?_⟩
    rw [st, if_pos (by omega), chr_cd e1]
    simp only [gdK_of hq.s0]
    rcases hz with y | y | y
    · rw [if_pos y]
    · rw [if_neg (by omega), if_pos y]
    · rw [if_neg (by omega), if_neg (by omega), if_pos y]
theorem sum_sp {q : Nat} (hq : isL q) {n : Int} {T : Int → Int} {pl s o i : Int} {K : KK} {σ : Sg} (h : CL q n T pl s K σ) (hx : TX n T) (p0 : 0 ≤ pl) (p1 : pl ≤ n) (i0 : 0 ≤ i) (i1 : i ≤ pl) {d : Nat} : (lsgn (chA n T pl) ≠ 2 ∧ lsgn (chA n T pl) ≠ 3 → f_LawReader_readSum_16 d q (zI o) (zI 0) (zI (chA n T pl)) (zI i) σ = rI (zI 0) σ) ∧ (lsgn (chA n T pl) = 2 ∨ lsgn (chA n T pl) = 3 → isCd (chA n T pl) ∧ CEq (chA n T pl) 0 (1048576 * lsgn (chA n T pl)) ∧ (chA n T pl = 43 ∨ chA n T pl = 45) ∧ f_LawReader_readSum_16 d q (zI o) (zI 0) (zI (chA n T pl)) (zI i) σ = (cI (f_LawReader_readTerm d q (zI o) (sI σ 5 4 (zI (pl + 1)))) fun v3 σ2 => cV (f_Law_emit d q (zI (chA n T pl)) (zI 0) σ2) fun σ4 => cI (f_Tape_now d σ4) fun v6 σ5 => f_LawReader_readSum_16 d q (zI o) v3 v6 (zI (i + 1)) σ5)) := by
  obtain ⟨c0, c1, c2⟩ := hx.ch p0
  have n260 := hx.2.1
  generalize hc : chA n T pl = c at c0 c1 c2
  have st : f_LawReader_readSum_16 d q (zI o) (zI 0) (zI c) (zI i) σ = if i < n then (if c = 43 then (cI (f_LawReader_readTerm d q (zI o) (sI σ 5 4 (zI (pl + 1)))) fun v3 σ2 => gdK 2 q (cV (f_Law_emit d q (((zI c).toUInt32 % 65536).toInt32) (zI 0) σ2) fun σ4 => cI (f_Tape_now d σ4) fun v6 σ5 => f_LawReader_readSum_16 d q (zI o) v3 v6 (zI (i + 1)) σ5)) else if c = 45 then (cI (f_LawReader_readTerm d q (zI o) (sI σ 5 4 (zI (pl + 1)))) fun v3 σ2 => gdK 2 q (cV (f_Law_emit d q (((zI c).toUInt32 % 65536).toInt32) (zI 0) σ2) fun σ4 => cI (f_Tape_now d σ4) fun v6 σ5 => f_LawReader_readSum_16 d q (zI o) v3 v6 (zI (i + 1)) σ5)) else rI (zI 0) σ) else rI (zI 0) σ := by
    rw [f_LawReader_readSum_16_eq, h.1.1.2.1, ifLe (by omega) (by omega), if0z, show (43 : Int32) = zI 43 from zI_lit 43, ifEq (by omega) (by decide), show (45 : Int32) = zI 45 from zI_lit 45, ifEq (by omega) (by decide)]
    dsimp only
    rw [h.1.nx, show (1 : Int32) = zI 1 from zI_lit 1, zI_add, zI_0]
  have hit : c = 43 ∨ c = 45 → isCd c ∧ CEq c 0 (1048576 * lsgn c) ∧ (lsgn c = 2 ∨ lsgn c = 3) := fun z => by
    rcases z with rfl | rfl
    · exact ⟨by simp [isCd], by unfold CEq; decide, by decide⟩
    · exact ⟨by simp [isCd], by unfold CEq; decide, by decide⟩
  have mis : ¬ (c = 43 ∨ c = 45) → lsgn c ≠ 2 ∧ lsgn c ≠ 3 := fun z => by
    unfold lsgn
    repeat' split
    all_goals omega
  refine ⟨fun z => ?_, fun z => ?_⟩
  · have nz : ¬ (c = 43 ∨ c = 45) := fun y => by have := (hit y).2.2; omega
    rw [st, if_neg (fun y => nz (Or.inl y)), if_neg (fun y => nz (Or.inr y))]
    by_cases y : i < n
    · rw [if_pos y]
    · rw [if_neg y]
  · have hz : c = 43 ∨ c = 45 := Classical.byContradiction fun y => by have := mis y; omega
    obtain ⟨e1, e2, -⟩ := hit hz
    have pn : pl < n := c2 (by omega)
    refine ⟨e1, e2, hz, ?_⟩
    rw [st, if_pos (by omega), chr_cd e1]
    simp only [gdK_of hq.s0]
    rcases hz with y | y
    · rw [if_pos y]
    · rw [if_neg (by omega), if_pos y]
theorem ML.put {n : Int} {T : Int → Int} {pl o s wt c w m : Int} {K : KK} {Wt : Int → Int} {τ : Sg} (h : ML n T pl o s K wt Wt τ) : ML n T pl o s (kPut K s c w m) wt Wt τ := h.cg (fun j j0 j1 => mup_ne (by omega)) fun _ _ _ => rfl
theorem LzT.put {n : Int} {T : Int → Int} {pl o s wt c w m : Int} {K : KK} {Wt : Int → Int} {τ : Sg} (h : LzT n T pl o s K wt Wt τ) : LzT n T pl o s (kPut K s c w m) wt Wt τ := by
  rcases h with h | ⟨x, x0, x1, s0, e, h⟩
  · exact Or.inl h.put
  · exact Or.inr ⟨x, x0, x1, s0, (show mup K.2.2 s m (s - 1) = _ from (mup_ne (by omega)).trans e), h.cg (fun j j0 j1 => mup_ne (by omega)) fun _ _ _ => rfl⟩
theorem LzT.mp {n : Int} {T : Int → Int} {pl o s wt : Int} {K : KK} {Wt : Int → Int} {τ : Sg} (h : LzT n T pl o s K wt Wt τ) : MP n T pl τ := by
  rcases h with h | ⟨x, x0, x1, s0, e, h⟩
  · exact h.1
  · exact h.1
theorem LzS.mp {n : Int} {T : Int → Int} {pl o s wt : Int} {K : KK} {Wt : Int → Int} {τ : Sg} (h : LzS n T pl o s K wt Wt τ) : MP n T pl τ := by
  rcases h with h | ⟨x, x0, x1, s0, e, h⟩
  · exact h.mp
  · exact h.mp
theorem TLoop {q : Nat} (hq : isL q) {n : Int} {T : Int → Int} (hx : TX n T) (n240 : n ≤ 240) {F : Int} (hF : JF q n T F) : ∀ (b : Nat) (pl o s0 s : Int) (K : KK), n - pl ≤ b → n - pl ≤ F → 0 ≤ pl → pl ≤ n → 0 ≤ o → o ≤ 6 → 0 ≤ s0 → s0 < s → s ≤ pl → KOk s K → (∀ k, 14 - 2 * o ≤ k → WE K.1 K.2.1 false s0 s k) → ∃ (v pl' s' : Int) (K' : KK), -10000 < v ∧ v ≤ 0 ∧ (v = 0 → pl ≤ pl' ∧ pl' ≤ n ∧ s ≤ s' ∧ s' - s ≤ pl' - pl ∧ kAg s K K' ∧ KOk s' K' ∧ lsgn (chA n T pl') < 4 ∧ ∀ k, 14 - 2 * o ≤ k → WE K'.1 K'.2.1 false s0 s' k) ∧
  (∀ (d : Nat) σ i, 26 ≤ (d : Int) + 3 * o → 0 ≤ i → i ≤ pl → CL q n T pl s K σ → ∃ σ', f_LawReader_readTerm_16 d q (zI o) (zI 0) (zI (chA n T pl)) (zI i) σ = rI (zI v) σ' ∧ Fr (SLw q) σ σ' ∧ (v < 0 → SzOk q σ') ∧ (v = 0 → CL q n T pl' s' K' σ')) ∧
  (∀ (d : Nat) τ base wt Wt, 0 ≤ base → base ≤ wt → wt ≤ pl → BW wt Wt → ¬ (4 ≤ wtop wt Wt ∧ wtop wt Wt ≤ 6) → LzT n T pl o s K wt Wt τ → ∃ τ', lawS d base τ = (if v = 0 then lawS d base τ' else rI (zI 0) τ') ∧ Fr SLm τ τ' ∧ (v < 0 → τ'.1 102 10 = zI v) ∧ (v = 0 → LzT n T pl' o s' K' wt Wt τ')) := by
  intro b
  have stay : ∀ (pl o s0 s : Int) (K : KK), 0 ≤ pl → pl ≤ n → 0 ≤ s0 → KOk s K → (∀ k, 14 - 2 * o ≤ k → WE K.1 K.2.1 false s0 s k) → lsgn (chA n T pl) < 4 → ∃ (v pl' s' : Int) (K' : KK), -10000 < v ∧ v ≤ 0 ∧ (v = 0 → pl ≤ pl' ∧ pl' ≤ n ∧ s ≤ s' ∧ s' - s ≤ pl' - pl ∧ kAg s K K' ∧ KOk s' K' ∧ lsgn (chA n T pl') < 4 ∧ ∀ k, 14 - 2 * o ≤ k → WE K'.1 K'.2.1 false s0 s' k) ∧
  (∀ (d : Nat) σ i, 26 ≤ (d : Int) + 3 * o → 0 ≤ i → i ≤ pl → CL q n T pl s K σ → ∃ σ', f_LawReader_readTerm_16 d q (zI o) (zI 0) (zI (chA n T pl)) (zI i) σ = rI (zI v) σ' ∧ Fr (SLw q) σ σ' ∧ (v < 0 → SzOk q σ') ∧ (v = 0 → CL q n T pl' s' K' σ')) ∧
  (∀ (d : Nat) τ base wt Wt, 0 ≤ base → base ≤ wt → wt ≤ pl → BW wt Wt → ¬ (4 ≤ wtop wt Wt ∧ wtop wt Wt ≤ 6) → LzT n T pl o s K wt Wt τ → ∃ τ', lawS d base τ = (if v = 0 then lawS d base τ' else rI (zI 0) τ') ∧ Fr SLm τ τ' ∧ (v < 0 → τ'.1 102 10 = zI v) ∧ (v = 0 → LzT n T pl' o s' K' wt Wt τ')) := fun pl o s0 s K p0 p1 _ ok we z => ⟨0, pl, s, K, by decide, by decide, fun _ => ⟨Int.le_refl _, p1, Int.le_refl _, by omega, kAg.rf _ _, ok, z, we⟩, fun d σ i _ i0 i1 h => ⟨σ, (term_sp hq h hx p0 p1 i0 i1).1 z, Fr.rf _ _, fun y => by omega, fun _ => h⟩, fun d τ base wt Wt _ _ _ _ _ h => ⟨τ, (if_pos rfl).symm, Fr.rf _ _, fun y => by omega, fun _ => h⟩⟩
  induction b with
  | zero =>
    intro pl o s0 s K hb hF' p0 p1 o0 o6 s00 s01 sp ok we
    refine stay pl o s0 s K p0 p1 s00 ok we ?_
    have : chA n T pl = -1 := by unfold chA; rw [if_neg (by omega)]
    rw [this]; decide
  | succ b ih =>
    intro pl o s0 s K hb hF' p0 p1 o0 o6 s00 s01 sp ok we
    by_cases z : lsgn (chA n T pl) < 4
    · exact stay pl o s0 s K p0 p1 s00 ok we z
    · have z : 4 ≤ lsgn (chA n T pl) := by omega
      obtain ⟨g0, g1, -, -⟩ := lsgn_b (chA n T pl)
      have ne : chA n T pl ≠ -1 := fun y => by rw [y] at z; exact absurd z (by decide)
      obtain ⟨c0, c1, c2⟩ := hx.ch p0
      have pn : pl < n := c2 (by omega)
      obtain ⟨v1, pl1, s1, K1, b1, b2, b3, hN, hM⟩ := hF (pl + 1) o s K (by omega) (by omega) (by omega) o0 o6 (by omega) (by omega) ok
      have aM : ∀ (d : Nat) τ base wt Wt, 0 ≤ base → base ≤ wt → wt ≤ pl → BW wt Wt → ¬ (4 ≤ wtop wt Wt ∧ wtop wt Wt ≤ 6) → LzT n T pl o s K wt Wt τ → ∃ τ', lawS d base τ = (if v1 = 0 then lawS d base τ' else rI (zI 0) τ') ∧ Fr SLm τ τ' ∧ (v1 < 0 → τ'.1 102 10 = zI v1) ∧ (v1 = 0 → ML n T pl1 o s1 K1 (wt + 1) (mup Wt wt (1048576 * lsgn (chA n T pl))) τ') := fun d τ base wt Wt q0 q1 q2 hb' ht h => by
        obtain ⟨τ1, d1, d2, d3⟩ := closeT_top h hb' (by omega) (by omega) (by omega) ht (d := d + 3)
        have d1 : f_M_closesSums (d + 6) (zI 0) τ = rV τ1 := d1
        obtain ⟨τ2, e1, e2, e3⟩ := lawS_sgn (base := base) hx p0 p1 h.mp (by omega) (by rw [if_neg (by omega)]; exact d1) d3 (by omega) (by omega)
        obtain ⟨τ3, f1, f2, f3, f4⟩ := hM d τ2 base (wt + 1) _ q0 (by omega) (by omega) (hb'.up (by omega) (by omega)) e3
        exact ⟨τ3, by rw [e1, f1], (d2.tr e2).tr f2, f3, f4⟩
      by_cases v0 : v1 = 0
      · subst v0
        obtain ⟨l0, l1, l2, l3, ag, ok1, we1⟩ := b3 rfl
        have aN : ∀ (d : Nat) σ i, 26 ≤ (d : Int) + 3 * o → 0 ≤ i → i ≤ pl → CL q n T pl s K σ → ∃ σ', Fr (SLw q) σ σ' ∧ CL q n T pl1 (s1 + 1) (kPut K1 s1 (chA n T pl) 0 (1048576 * lsgn (chA n T pl))) σ' ∧ isCd (chA n T pl) ∧ CEq (chA n T pl) 0 (1048576 * lsgn (chA n T pl)) ∧ (chA n T pl = 42 ∨ chA n T pl = 47 ∨ chA n T pl = 37) ∧ f_LawReader_readTerm_16 d q (zI o) (zI 0) (zI (chA n T pl)) (zI i) σ = f_LawReader_readTerm_16 d q (zI o) (zI 0) (zI (chA n T pl1)) (zI (i + 1)) σ' := fun d σ i hd i0 i1 h => by
          obtain ⟨t1, t2, t3, t4⟩ := (term_sp hq h hx p0 p1 i0 i1 (o := o) (d := d)).2 z
          obtain ⟨σ1, a1, a2, -, a4⟩ := hN d _ hd (h.up hq (pl + 1))
          obtain ⟨e, rfl⟩ : ∃ e, d = e + 1 := ⟨d - 1, by omega⟩
          obtain ⟨σ2, d1, d2, d3⟩ := emit_sp hq (a4 rfl) t1 (by omega) (by omega) (w := 0) (m := 1048576 * lsgn (chA n T pl)) (d := e)
          refine ⟨σ2, (((Fr.rf _ σ).sI _ (by simp [SLw])).tr a2).tr d2, d3, t1, t2, t3, ?_⟩
          rw [t4, a1, cI_rI, d1, cV_rV, d3.1.now hx (by omega) l1, cI_rI]
        -- the sign's kind, by any state: by the text alone
        have kd : isCd (chA n T pl) ∧ CEq (chA n T pl) 0 (1048576 * lsgn (chA n T pl)) ∧ (chA n T pl = 42 ∨ chA n T pl = 47 ∨ chA n T pl = 37) := by
          have y : chA n T pl = 42 ∨ chA n T pl = 47 ∨ chA n T pl = 37 := by
            refine Classical.byContradiction fun y => ?_
            have : lsgn (chA n T pl) < 4 := by
              unfold lsgn
              repeat' split
              all_goals omega
            omega
          rcases y with y | y | y <;> rw [y] <;> exact ⟨by simp [isCd], by unfold CEq; decide, by decide⟩
        obtain ⟨k1, k2, k3⟩ := kd
        have we2 : ∀ k, 14 - 2 * o ≤ k → WE (kPut K1 s1 (chA n T pl) 0 (1048576 * lsgn (chA n T pl))).1 (kPut K1 s1 (chA n T pl) 0 (1048576 * lsgn (chA n T pl))).2.1 false s0 (s1 + 1) k := fun k hk => by
          refine WE.op (m := s) (WE.ag ((we k hk).ag ag s00 (Int.le_refl _)) (kAg_put K1) s00 (by omega)) (WE.ag (we1 (k - 1) (by omega)) (kAg_put K1) (by omega) (Int.le_refl _)) ?_
          rw [show (kPut K1 s1 (chA n T pl) 0 (1048576 * lsgn (chA n T pl))).1 s1 = chA n T pl from mup_same _ _ _]
          omega
        obtain ⟨v, pl', s', K', e1, e2, e3, iN, iM⟩ := ih pl1 o s0 (s1 + 1) _ (by omega) (by omega) (by omega) l1 o0 o6 s00 (by omega) (by omega) (ok1.put k2) we2
        refine ⟨v, pl', s', K', e1, e2, fun y => ?_, fun d σ i hd i0 i1 h => ?_, fun d τ base wt Wt q0 q1 q2 hb' ht h => ?_⟩
        · obtain ⟨m0, m1, m2, m3, ag', ok', sg, we'⟩ := e3 y
          exact ⟨by omega, m1, by omega, by omega, (ag.tr (kAg_put K1) (by omega)).tr ag' (by omega), ok', sg, we'⟩
        · obtain ⟨σ1, a1, a2, -, -, -, a3⟩ := aN d σ i hd i0 i1 h
          obtain ⟨σ2, d1, d2, d3⟩ := iN d σ1 (i + 1) hd (by omega) (by omega) a2
          exact ⟨σ2, by rw [a3, d1], a1.tr d2, d3⟩
        · obtain ⟨τ1, a1, a2, -, a4⟩ := aM d τ base wt Wt q0 q1 q2 hb' ht h
          have lz : LzT n T pl1 o (s1 + 1) (kPut K1 s1 (chA n T pl) 0 (1048576 * lsgn (chA n T pl))) wt Wt τ1 := Or.inr ⟨lsgn (chA n T pl), z, g1, by omega, by rw [show s1 + 1 - 1 = s1 by omega]; exact mup_same _ _ _, by rw [show s1 + 1 - 1 = s1 by omega]; exact (a4 rfl).put⟩
          obtain ⟨τ2, d1, d2, d3⟩ := iM d τ1 base wt Wt q0 q1 (by omega) hb' ht lz
          exact ⟨τ2, by rw [a1, if_pos rfl, d1], a2.tr d2, d3⟩
      · refine ⟨v1, 0, 0, K, b1, b2, fun y => absurd y v0, fun d σ i hd i0 i1 h => ?_, fun d τ base wt Wt q0 q1 q2 hb' ht h => ?_⟩
        · obtain ⟨t1, t2, t3, t4⟩ := (term_sp hq h hx p0 p1 i0 i1 (o := o) (d := d)).2 z
          obtain ⟨σ1, a1, a2, a3, -⟩ := hN d _ hd (h.up hq (pl + 1))
          obtain ⟨e, rfl⟩ : ∃ e, d = e + 1 := ⟨d - 1, by omega⟩
          obtain ⟨σ2, d1, d2, d3⟩ := emit_any hq (a3 (by omega)) (zI (chA n T pl)) (zI 0) e
          obtain ⟨w, hw⟩ := now_any e σ2
          refine ⟨σ2, ?_, (((Fr.rf _ σ).sI _ (by simp [SLw])).tr a2).tr d2, fun _ => d3, fun y => absurd y v0⟩
          rw [t4, a1, cI_rI, d1, cV_rV, hw, cI_rI, term_bad v0 b1 b2]
        · obtain ⟨τ1, a1, a2, a3, -⟩ := aM d τ base wt Wt q0 q1 q2 hb' ht h
          exact ⟨τ1, a1, a2, a3, fun y => absurd y v0⟩
theorem JT_of {q : Nat} (hq : isL q) {n : Int} {T : Int → Int} (hx : TX n T) (n240 : n ≤ 240) {F : Int} (hF : JF q n T F) : JT q n T F := by
  intro pl o s K hF' p0 p1 o0 o6 s0 sp ok
  obtain ⟨v1, pl1, s1, K1, b1, b2, b3, hN, hM⟩ := hF pl o s K hF' p0 p1 o0 o6 s0 sp ok
  by_cases v0 : v1 = 0
  · subst v0
    obtain ⟨l0, l1, l2, l3, ag, ok1, we1⟩ := b3 rfl
    obtain ⟨v, pl', s', K', e1, e2, e3, iN, iM⟩ := TLoop hq hx n240 hF (n - pl1).toNat pl1 o s s1 K1 (by omega) (by omega) (by omega) l1 o0 o6 s0 l2 (by omega) ok1 (fun k hk => we1 k (by omega))
    refine ⟨v, pl', s', K', e1, e2, fun y => ?_, fun d σ hd h => ?_, fun d τ base wt Wt q0 q1 q2 hb ht h => ?_⟩
    · obtain ⟨m0, m1, m2, m3, ag', ok', sg, we'⟩ := e3 y
      exact ⟨by omega, m1, by omega, by omega, ag.tr ag' (by omega), ok', sg, we'⟩
    · obtain ⟨e, rfl⟩ : ∃ e, d = e + 2 := ⟨d - 2, by omega⟩
      obtain ⟨σ1, a1, a2, -, a4⟩ := hN (e + 1) σ (by omega) h
      have h1 := a4 rfl
      obtain ⟨σ2, d1, d2, d3⟩ := iN (e + 1) σ1 0 (by omega) (by decide) (by omega) h1
      refine ⟨σ2, ?_, a2.tr d2, d3⟩
      rw [f_LawReader_readTerm_eq, a1, cI_rI, h1.1.now hx (by omega) l1, cI_rI, zI_0]
      exact d1
    · obtain ⟨τ1, a1, a2, -, a4⟩ := hM d τ base wt Wt q0 q1 q2 hb h
      obtain ⟨τ2, d1, d2, d3⟩ := iM d τ1 base wt Wt q0 q1 (by omega) hb ht (Or.inl (a4 rfl))
      exact ⟨τ2, by rw [a1, if_pos rfl, d1], a2.tr d2, d3⟩
  · refine ⟨v1, 0, 0, K, b1, b2, fun y => absurd y v0, fun d σ hd h => ?_, fun d τ base wt Wt q0 q1 q2 hb ht h => ?_⟩
    · obtain ⟨e, rfl⟩ : ∃ e, d = e + 2 := ⟨d - 2, by omega⟩
      obtain ⟨σ1, a1, a2, a3, -⟩ := hN (e + 1) σ (by omega) h
      obtain ⟨w, hw⟩ := now_any e σ1
      refine ⟨σ1, ?_, a2, a3, fun y => absurd y v0⟩
      rw [f_LawReader_readTerm_eq, a1, cI_rI, hw, cI_rI, term_bad v0 b1 b2]
    · obtain ⟨τ1, a1, a2, a3, -⟩ := hM d τ base wt Wt q0 q1 q2 hb h
      exact ⟨τ1, a1, a2, a3, fun y => absurd y v0⟩
