/-! law: a test, in both -/
theorem cCmp_sp {q : Nat} (hq : isL q) {n : Int} {T : Int → Int} {pl s o : Int} {K : KK} {σ : Sg} (h : CL q n T pl s K σ) (hx : TX n T) (p0 : 0 ≤ pl) (p1 : pl ≤ n) {d : Nat} : (cI (rI (zI 0) σ) fun v12 σ11 => if v12 = 0 then (cI (f_Tape_now (d + 1) σ11) fun v14 σ13 => if v14 = 60 then (let σ15 := sI σ13 5 4 ((σ13.1 5 4) + 1); cI (f_LawReader_readSum (d + 1) q (zI o) σ15) fun v17 σ16 => gdK 2 q (cV (f_Law_emit (d + 1) q ((v14.toUInt32 % 65536).toInt32) 0 σ16) fun σ18 => rI v17 σ18)) else (if v14 = 62 then (let σ19 := sI σ13 5 4 ((σ13.1 5 4) + 1); cI (f_LawReader_readSum (d + 1) q (zI o) σ19) fun v21 σ20 => gdK 2 q (cV (f_Law_emit (d + 1) q ((v14.toUInt32 % 65536).toInt32) 0 σ20) fun σ22 => rI v21 σ22)) else (if v14 = 61 then (let σ23 := sI σ13 5 4 ((σ13.1 5 4) + 1); cI (f_LawReader_readSum (d + 1) q (zI o) σ23) fun v25 σ24 => gdK 2 q (cV (f_Law_emit (d + 1) q ((v14.toUInt32 % 65536).toInt32) 0 σ24) fun σ26 => rI v25 σ26)) else (cI (f_Tape_fault (d + 1) 1 σ13) fun v28 σ27 => rI v28 σ27)))) else (rI v12 σ11)) = if cmpI (chA n T pl) = -1 then rI (zI (-1000 - pl)) σ else (cI (f_LawReader_readSum (d + 1) q (zI o) (sI σ 5 4 (zI (pl + 1)))) fun v17 σ16 => cV (f_Law_emit (d + 1) q (zI (chA n T pl)) (zI 0) σ16) fun σ18 => rI v17 σ18) := by
  obtain ⟨c0, c1, -⟩ := hx.ch p0
  rw [cI_rI, if0z, h.1.now hx p0 p1, cI_rI, show (60 : Int32) = zI 60 from zI_lit 60, ifEq (by omega) (by decide), show (62 : Int32) = zI 62 from zI_lit 62, ifEq (by omega) (by decide), show (61 : Int32) = zI 61 from zI_lit 61, ifEq (by omega) (by decide)]
  dsimp only
  rw [h.1.nx]
  unfold cmpI
  by_cases z1 : chA n T pl = 60
  · rw [if_pos z1, if_pos z1, if_neg (by decide), chr_cd (by rw [z1]; simp [isCd]), zI_0]
    simp only [gdK_of hq.s0]
  · rw [if_neg z1, if_neg z1]
    by_cases z2 : chA n T pl = 62
    · rw [if_pos z2, if_pos z2, if_neg (by decide), chr_cd (by rw [z2]; simp [isCd]), zI_0]
      simp only [gdK_of hq.s0]
    · rw [if_neg z2, if_neg z2]
      by_cases z3 : chA n T pl = 61
      · rw [if_pos z3, if_pos z3, if_neg (by decide), chr_cd (by rw [z3]; simp [isCd]), zI_0]
        simp only [gdK_of hq.s0]
      · rw [if_neg z3, if_neg z3, if_pos rfl, show (1 : Int32) = zI 1 from zI_lit 1, tfaultZ h.1.2, cI_rI]; rfl
theorem cmpI_k {c : Int} (h : cmpI c ≠ -1) : isCd c ∧ CEq c 0 (1048576 * cmpI c) ∧ (c = 60 ∨ c = 61 ∨ c = 62) ∧ c ≠ -1 := by
  have y : c = 60 ∨ c = 61 ∨ c = 62 := by
    refine Classical.byContradiction fun y => h ?_
    unfold cmpI
    rw [if_neg (by omega), if_neg (by omega), if_neg (by omega)]
  rcases y with rfl | rfl | rfl <;> exact ⟨by simp [isCd], by unfold CEq; decide, by decide, by decide⟩
theorem JX_cmp {q : Nat} (hq : isL q) {n : Int} {T : Int → Int} (hx : TX n T) (n240 : n ≤ 240) (pl o s : Int) (K : KK) (p0 : 0 ≤ pl) (p1 : pl ≤ n) (o0 : 0 ≤ o) (o6 : o ≤ 6) (s0 : 0 ≤ s) (sp : s ≤ pl) (ok : KOk s K) : ∃ (v pl' s' : Int) (K' : KK), -10000 < v ∧ v ≤ 0 ∧ (v = 0 → pl < pl' ∧ pl' ≤ n ∧ s < s' ∧ s' - s ≤ pl' - pl ∧ kAg s K K' ∧ KOk s' K' ∧ ∀ k, 16 - 2 * o ≤ k → WE K'.1 K'.2.1 true s s' k) ∧
  (∀ (d : Nat) σ, 28 ≤ (d : Int) + 1 + 3 * o → CL q n T pl s K σ → ∃ σ', cCmp (d + 1) q (zI o) σ = rI (zI v) σ' ∧ Fr (SLw q) σ σ' ∧ (v < 0 → SzOk q σ') ∧ (v = 0 → CL q n T pl' s' K' σ')) ∧
  (∀ (d : Nat) τ wt Wt, 1 ≤ wt → wt ≤ pl → BW wt Wt → ¬ (2 ≤ wtop wt Wt ∧ wtop wt Wt ≤ 6) → ML n T pl o s K wt Wt τ → ∃ τ', (cI (f_M_readsCompared (d + 8) τ) fun v18 σ17 => if v18 = 0 then (rZ 0 σ17) else (lawD d σ17)) = (if v = 0 then lawE d (d + 5) τ' else rI (zI 0) τ') ∧ Fr SLm τ τ' ∧ (v < 0 → τ'.1 102 10 = zI v) ∧ (v = 0 → ML n T pl' o s' K' wt Wt τ')) := by
  have n260 := hx.2.1
  obtain ⟨v1, pl1, s1, K1, b1, b2, b3, hN1, hM1⟩ := sumBoth hq hx n240 pl o s K p0 p1 o0 o6 s0 sp ok
  by_cases v0 : v1 = 0
  · subst v0
    obtain ⟨l0, l1, l2, l3, ag1, ok1, we1⟩ := b3 rfl
    obtain ⟨c0, c1, c2⟩ := hx.ch (show 0 ≤ pl1 by omega)
    have aN : ∀ (d : Nat) σ, 28 ≤ (d : Int) + 1 + 3 * o → CL q n T pl s K σ → ∃ σ', Fr (SLw q) σ σ' ∧ CL q n T pl1 s1 K1 σ' ∧ cCmp (d + 1) q (zI o) σ = if cmpI (chA n T pl1) = -1 then rI (zI (-1000 - pl1)) σ' else (cI (f_LawReader_readSum (d + 1) q (zI o) (sI σ' 5 4 (zI (pl1 + 1)))) fun v17 σ16 => cV (f_Law_emit (d + 1) q (zI (chA n T pl1)) (zI 0) σ16) fun σ18 => rI v17 σ18) := fun d σ hd h => by
      obtain ⟨σ1, a1, a2, -, a4⟩ := hN1 (d + 1) σ (by omega) h
      refine ⟨σ1, a2, a4 rfl, ?_⟩
      rw [← cCmp_sp hq (a4 rfl) hx (by omega) l1]
      unfold cCmp
      rw [a1]
    have aM : ∀ (d : Nat) τ wt Wt, 1 ≤ wt → wt ≤ pl → BW wt Wt → ¬ (2 ≤ wtop wt Wt ∧ wtop wt Wt ≤ 6) → ML n T pl o s K wt Wt τ → ∃ τ', Fr SLm τ τ' ∧ ML n T pl1 o s1 K1 wt Wt τ' ∧ (cI (f_M_readsCompared (d + 8) τ) fun v18 σ17 => if v18 = 0 then (rZ 0 σ17) else (lawD d σ17)) = if cmpI (chA n T pl1) = -1 then rI (zI 0) (sI τ' 102 10 (zI (-1000 - pl1))) else (cI (f_M_readsSum (d + 7) (sI τ' 102 8 (zI (pl1 + 1)))) fun v9 σ8 => if v9 = 0 then (rI (zI 0) σ8) else (cV (f_M_notes (d + 7) (zI (cmpI (chA n T pl1))) (zI 0) σ8) fun σ10 => cV (f_M_endsPiece (d + 7) σ10) fun σ11 => lawD d σ11)) := fun d τ wt Wt q0 q1 hb ht h => by
      obtain ⟨τ1, a1, a2, -, a4⟩ := hM1 d τ wt Wt (by omega) q1 hb ht h
      refine ⟨τ1, a2, a4 rfl, ?_⟩
      rw [← mComp_sp (a4 rfl).1 hx (by omega) l1 (lawD d), f_M_readsCompared_eq, a1, bzz]
    by_cases z : cmpI (chA n T pl1) = -1
    · refine ⟨-1000 - pl1, 0, 0, K, by omega, by omega, fun y => by omega, fun d σ hd h => ?_, fun d τ wt Wt q0 q1 hb ht h => ?_⟩
      · obtain ⟨σ1, a1, a2, a3⟩ := aN d σ hd h
        exact ⟨σ1, by rw [a3, if_pos z], a1, fun _ => a2.sz (by omega) (by omega), fun y => by omega⟩
      · obtain ⟨τ1, a1, a2, a3⟩ := aM d τ wt Wt q0 q1 hb ht h
        exact ⟨_, by rw [a3, if_pos z, if_neg (by omega)], a1.sI (a := 102) (k := 10) (zI (-1000 - pl1)) rfl, fun _ => sI_same _ _ _ _, fun y => by omega⟩
    · obtain ⟨k1, k2, k3, k4⟩ := cmpI_k z
      have pn : pl1 < n := c2 (by omega)
      obtain ⟨v2, pl2, s2, K2, e1, e2, e3, hN2, hM2⟩ := sumBoth hq hx n240 (pl1 + 1) o s1 K1 (by omega) (by omega) o0 o6 (by omega) (by omega) ok1
      by_cases u0 : v2 = 0
      · subst u0
        obtain ⟨m0, m1, m2, m3, ag2, ok2, we2⟩ := e3 rfl
        refine ⟨0, pl2, s2 + 1, kPut K2 s2 (chA n T pl1) 0 (1048576 * cmpI (chA n T pl1)), by decide, by decide, fun _ => ⟨by omega, m1, by omega, by omega, (ag1.tr ag2 (by omega)).tr (kAg_put K2) (by omega), ok2.put k2, fun k hk => ?_⟩, fun d σ hd h => ?_, fun d τ wt Wt q0 q1 hb ht h => ?_⟩
        · refine WE.cmp (m := s1) (WE.ag ((we1 k (by omega)).ag ag2 s0 (Int.le_refl _)) (kAg_put K2) s0 (by omega)) (WE.ag (we2 (k - 1) (by omega)) (kAg_put K2) (by omega) (Int.le_refl _)) ?_
          rw [show (kPut K2 s2 (chA n T pl1) 0 (1048576 * cmpI (chA n T pl1))).1 s2 = chA n T pl1 from mup_same _ _ _]
          exact k3
        · obtain ⟨σ1, a1, a2, a3⟩ := aN d σ hd h
          obtain ⟨σ2, f1, f2, -, f4⟩ := hN2 (d + 1) _ (by omega) (a2.up hq (pl1 + 1))
          obtain ⟨σ3, g1, g2, g3⟩ := emit_sp hq (f4 rfl) k1 (by omega) (by omega) (w := 0) (m := 1048576 * cmpI (chA n T pl1)) (d := d)
          exact ⟨σ3, by rw [a3, if_neg z, f1, cI_rI, g1, cV_rV], ((a1.sI _ (by simp [SLw])).tr f2).tr g2, fun y => by omega, fun _ => g3⟩
        · obtain ⟨τ1, a1, a2, a3⟩ := aM d τ wt Wt q0 q1 hb ht h
          obtain ⟨τ2, f1, f2, -, f4⟩ := hM2 d _ wt Wt (by omega) (by omega) hb ht (a2.up (pl1 + 1))
          obtain ⟨τ3, g1, g2, g3, -⟩ := notes_sp (op := cmpI (chA n T pl1)) (v := 0) (c := chA n T pl1) (w := 0) (f4 rfl) (by omega) (by omega) (d := d + 6)
          have g1 : f_M_notes (d + 7) (zI (cmpI (chA n T pl1))) (zI 0) τ2 = rV τ3 := g1
          rw [show (1048576 * cmpI (chA n T pl1) + 0 : Int) = 1048576 * cmpI (chA n T pl1) by omega] at g3
          refine ⟨τ3, ?_, ((a1.sI _ rfl).tr f2).tr g2, fun y => by omega, fun _ => g3⟩
          rw [a3, if_neg z, f1, bzz, cI_rI, if1z, g1, cV_rV, if_pos rfl]
          rfl
      · refine ⟨v2, 0, 0, K, e1, e2, fun y => absurd y u0, fun d σ hd h => ?_, fun d τ wt Wt q0 q1 hb ht h => ?_⟩
        · obtain ⟨σ1, a1, a2, a3⟩ := aN d σ hd h
          obtain ⟨σ2, f1, f2, f3, -⟩ := hN2 (d + 1) _ (by omega) (a2.up hq (pl1 + 1))
          obtain ⟨σ3, g1, g2, g3⟩ := emit_any hq (f3 (by omega)) (zI (chA n T pl1)) (zI 0) d
          exact ⟨σ3, by rw [a3, if_neg z, f1, cI_rI, g1, cV_rV], ((a1.sI _ (by simp [SLw])).tr f2).tr g2, fun _ => g3, fun y => absurd y u0⟩
        · obtain ⟨τ1, a1, a2, a3⟩ := aM d τ wt Wt q0 q1 hb ht h
          obtain ⟨τ2, f1, f2, f3, -⟩ := hM2 d _ wt Wt (by omega) (by omega) hb ht (a2.up (pl1 + 1))
          exact ⟨τ2, by rw [a3, if_neg z, f1, bzn (by omega), cI_rI, if0z, if_neg u0], (a1.sI _ rfl).tr f2, f3, fun y => absurd y u0⟩
  · refine ⟨v1, 0, 0, K, b1, b2, fun y => absurd y v0, fun d σ hd h => ?_, fun d τ wt Wt q0 q1 hb ht h => ?_⟩
    · obtain ⟨σ1, a1, a2, a3, -⟩ := hN1 (d + 1) σ (by omega) h
      refine ⟨σ1, ?_, a2, a3, fun y => absurd y v0⟩
      unfold cCmp
      rw [a1, cI_rI, ifV b2 b1, if_neg v0]
    · obtain ⟨τ1, a1, a2, a3, -⟩ := hM1 d τ wt Wt (by omega) q1 hb ht h
      refine ⟨τ1, ?_, a2, a3, fun y => absurd y v0⟩
      rw [f_M_readsCompared_eq, a1, bzn (by omega), cI_rI, if0z, rZ_0, cI_rI, if0z, if_neg v0]
      rfl
theorem JX_of {q : Nat} (hq : isL q) {n : Int} {T : Int → Int} (hx : TX n T) (n240 : n ≤ 240) {F : Int} (hX : JX q n T (F - 1)) (hC : JC q n T (F - 1)) : JX q n T F := by
  intro pl o s K hF p0 p1 o0 o6 s0 sp ok
  obtain ⟨c0, c1, c2⟩ := hx.ch p0
  have n260 := hx.2.1
  by_cases z1 : chA n T pl = 33 ∧ o < 6
  · have pn : pl < n := c2 (by omega)
    obtain ⟨v1, pl1, s1, K1, b1, b2, b3, hN, hM⟩ := hX (pl + 1) (o + 1) s K (by omega) (by omega) (by omega) (by omega) (by omega) s0 (by omega) ok
    have aM : ∀ (d : Nat) τ wt Wt, 1 ≤ wt → wt ≤ pl → BW wt Wt → ML n T pl o s K wt Wt τ → ∃ τ' e, lawC d τ = (if v1 = 0 then lawE d e τ' else rI (zI 0) τ') ∧ Fr SLm τ τ' ∧ (v1 < 0 → τ'.1 102 10 = zI v1) ∧ (v1 = 0 → ML n T pl1 (o + 1) s1 K1 (wt + 1) (mup Wt wt (1048576 * 10)) τ') := fun d τ wt Wt q0 q1 hb h => by
      obtain ⟨τ1, a1, a2, a3⟩ := (opens_sp (op := 10) h o0 o6 (by omega) (by omega) p0 (by omega) (d := d + 6)).2 z1.2
      have a1 : f_M_opens (d + 8) (zI 10) τ = rI (zI 1) τ1 := a1
      obtain ⟨τ2, e, f1, f2, f3, f4⟩ := hM d τ1 (wt + 1) _ (by omega) (by omega) (hb.up (by omega) (by omega)) (by rw [wtop_up (by omega)]; omega) a3
      exact ⟨τ2, e, by rw [lawC_sp h.1 hx p0 p1, if_pos z1.1, a1, cI_rI, if1z, f1], a2.tr f2, f3, f4⟩
    by_cases v0 : v1 = 0
    · subst v0
      obtain ⟨l0, l1, l2, l3, ag, ok1, we⟩ := b3 rfl
      refine ⟨0, pl1, s1 + 1, kPut K1 s1 33 0 (1048576 * 10), by decide, by decide, fun _ => ⟨by omega, l1, by omega, by omega, ag.tr (kAg_put K1) (by omega), ok1.put (by unfold CEq; decide), fun k hk => WE.nt (WE.ag (we k (by omega)) (kAg_put K1) s0 (Int.le_refl _)) (mup_same _ _ _)⟩, fun d σ hd h => ?_, fun d τ wt Wt q0 q1 hb ht h => ?_⟩
      · obtain ⟨e, rfl⟩ : ∃ e, d = e + 2 := ⟨d - 2, by omega⟩
        obtain ⟨σ1, a1, a2, -, a4⟩ := hN (e + 1) _ (by omega) (h.up hq (pl + 1))
        obtain ⟨σ2, g1, g2, g3⟩ := emit_sp hq (a4 rfl) (show isCd 33 by simp [isCd]) (by omega) (by omega) (w := 0) (m := 1048576 * 10) (d := e)
        exact ⟨σ2, by rw [cTest_sp hq h hx p0 p1 o0 o6, if_pos z1, a1, cI_rI, g1, cV_rV], (((Fr.rf _ σ).sI _ (by simp [SLw])).tr a2).tr g2, fun y => by omega, fun _ => g3⟩
      · obtain ⟨τ1, e, a1, a2, -, a4⟩ := aM d τ wt Wt q0 q1 hb h
        obtain ⟨τ2, f1, f2, f3⟩ := ep_step (a4 rfl) hb (by omega) (by omega) (by omega) (by omega) (e := e)
        refine ⟨τ2, e, ?_, a2.tr f2, fun y => by omega, fun _ => f3⟩
        rw [a1, if_pos rfl, if_pos rfl]
        unfold lawE
        rw [f1]
    · refine ⟨v1, 0, 0, K, b1, b2, fun y => absurd y v0, fun d σ hd h => ?_, fun d τ wt Wt q0 q1 hb ht h => ?_⟩
      · obtain ⟨e, rfl⟩ : ∃ e, d = e + 2 := ⟨d - 2, by omega⟩
        obtain ⟨σ1, a1, a2, a3, -⟩ := hN (e + 1) _ (by omega) (h.up hq (pl + 1))
        obtain ⟨σ2, g1, g2, g3⟩ := emit_any hq (a3 (by omega)) (zI 33) (zI 0) e
        exact ⟨σ2, by rw [cTest_sp hq h hx p0 p1 o0 o6, if_pos z1, a1, cI_rI, g1, cV_rV], (((Fr.rf _ σ).sI _ (by simp [SLw])).tr a2).tr g2, fun _ => g3, fun y => absurd y v0⟩
      · obtain ⟨τ1, e, a1, a2, a3, -⟩ := aM d τ wt Wt q0 q1 hb h
        exact ⟨τ1, e, a1, a2, a3, fun y => absurd y v0⟩
  · by_cases z2 : chA n T pl = 40 ∧ o < 6
    · have pn : pl < n := c2 (by omega)
      have z33 : chA n T pl ≠ 33 := by omega
      obtain ⟨v1, pl1, s1, K1, b1, b2, b3, hN, hM⟩ := hC (pl + 1) (o + 1) s K (by omega) (by omega) (by omega) (by omega) (by omega) s0 (by omega) ok
      have aM : ∀ (d : Nat) τ wt Wt, 1 ≤ wt → wt ≤ pl → BW wt Wt → ML n T pl o s K wt Wt τ → ∃ τ', lawC d τ = (if v1 = 0 then lawD d τ' else rI (zI 0) τ') ∧ Fr SLm τ τ' ∧ (v1 < 0 → τ'.1 102 10 = zI v1) ∧ (v1 = 0 → LzC n T pl1 (o + 1) s1 K1 (wt + 1) (mup Wt wt (1048576 * 13)) τ') := fun d τ wt Wt q0 q1 hb h => by
        obtain ⟨τ1, a1, a2, a3⟩ := (opens_sp (op := 13) h o0 o6 (by omega) (by omega) p0 (by omega) (d := d + 6)).2 z2.2
        have a1 : f_M_opens (d + 8) (zI 13) τ = rI (zI 1) τ1 := a1
        obtain ⟨τ2, f1, f2, f3, f4⟩ := hM d τ1 (wt + 1) _ (by omega) (by omega) (hb.up (by omega) (by omega)) (by rw [wtop_up (by omega)]; omega) a3
        exact ⟨τ2, by rw [lawC_sp h.1 hx p0 p1, if_neg z33, if_pos z2.1, a1, cI_rI, if1z, f1], a2.tr f2, f3, f4⟩
      have aN : ∀ (e : Nat) σ, 35 ≤ ((e + 4 : Nat) : Int) + 4 * o → CL q n T pl s K σ → ∃ σ', Fr (SLw q) σ σ' ∧ (v1 < 0 → SzOk q σ') ∧ (v1 = 0 → CL q n T pl1 s1 K1 σ') ∧ f_LawReader_readTest (e + 4) q (zI o) σ = if v1 = 0 then (cI (f_Tape_sign (e + 2) (zI 41) σ') fun v5 σ4 => rI v5 σ4) else rI (zI v1) σ' := fun e σ hd h => by
        obtain ⟨σ1, a1, a2, a3, a4⟩ := hN (e + 2) _ (by omega) (h.up hq (pl + 1))
        refine ⟨σ1, ((Fr.rf _ σ).sI _ (by simp [SLw])).tr a2, a3, a4, ?_⟩
        rw [cTest_sp hq h hx p0 p1 o0 o6, if_neg z1, if_pos z2, f_LawReader_readBracket_eq]
        dsimp only
        rw [h.1.nx, a1, cI_rI, ifV b2 b1, show (41 : Int32) = zI 41 from zI_lit 41]
        by_cases v0 : v1 = 0
        · rw [if_pos v0]
          cases f_Tape_sign (e + 2) (zI 41) σ1 with
          | none => rfl
          | some p =>
            obtain ⟨p1, p2⟩ := p
            cases p1 with
            | none => rfl
            | some u => cases u <;> rfl
        · rw [if_neg v0, cI_rI]
      by_cases v0 : v1 = 0
      · subst v0
        obtain ⟨l0, l1, l2, l3, ag, ok1, n38, n124, we⟩ := b3 rfl
        by_cases z3 : chA n T pl1 = 41
        · have pn1 : pl1 < n := (hx.ch (show 0 ≤ pl1 by omega)).2.2 (by omega)
          refine ⟨0, pl1 + 1, s1, K1, by decide, by decide, fun _ => ⟨by omega, by omega, l2, by omega, ag, ok1, fun k hk => we k (by omega)⟩, fun d σ hd h => ?_, fun d τ wt Wt q0 q1 hb ht h => ?_⟩
          · obtain ⟨e, rfl⟩ : ∃ e, d = e + 4 := ⟨d - 4, by omega⟩
            obtain ⟨σ1, F1, -, a4, a1⟩ := aN e σ hd h
            have h1 := a4 rfl
            have sg := sign_sp (c := 41) h1.1 hx (by omega) l1 (by decide) (by decide) (d := e)
            exact ⟨_, by rw [a1, if_pos rfl, sg, if_pos z3, cI_rI], F1.sI _ (by simp [SLw]), fun y => by omega, fun _ => h1.up hq (pl1 + 1)⟩
          · obtain ⟨τ1, a1, a2, -, a4⟩ := aM d τ wt Wt q0 q1 hb h
            obtain ⟨τ2, -, f1, f2, f3⟩ := lawD_cl hx (show 0 ≤ pl1 by omega) l1 (a4 rfl) z3 hb (by omega) (by omega) (by omega) (d := d)
            exact ⟨τ2, d + 6, by rw [a1, if_pos rfl, f1 (by omega), if_pos rfl], a2.tr f2, fun y => by omega, fun _ => f3⟩
        · refine ⟨-1000 - pl1, 0, 0, K, by omega, by omega, fun y => by omega, fun d σ hd h => ?_, fun d τ wt Wt q0 q1 hb ht h => ?_⟩
          · obtain ⟨e, rfl⟩ : ∃ e, d = e + 4 := ⟨d - 4, by omega⟩
            obtain ⟨σ1, F1, -, a4, a1⟩ := aN e σ hd h
            have h1 := a4 rfl
            have sg := sign_sp (c := 41) h1.1 hx (by omega) l1 (by decide) (by decide) (d := e)
            exact ⟨σ1, by rw [a1, if_pos rfl, sg, if_neg z3, cI_rI], F1, fun _ => h1.sz (by omega) (by omega), fun y => by omega⟩
          · obtain ⟨τ1, a1, a2, -, a4⟩ := aM d τ wt Wt q0 q1 hb h
            have f1 := (lawD_sp (a4 rfl).mp hx (show 0 ≤ pl1 by omega) l1 (d := d)).2.2.2 z3 n38 n124
            exact ⟨_, 0, by rw [a1, if_pos rfl, f1, if_neg (by omega)], a2.sI (a := 102) (k := 10) (zI (-1000 - pl1)) rfl, fun _ => sI_same _ _ _ _, fun y => by omega⟩
      · refine ⟨v1, 0, 0, K, b1, b2, fun y => absurd y v0, fun d σ hd h => ?_, fun d τ wt Wt q0 q1 hb ht h => ?_⟩
        · obtain ⟨e, rfl⟩ : ∃ e, d = e + 4 := ⟨d - 4, by omega⟩
          obtain ⟨σ1, F1, a3, -, a1⟩ := aN e σ hd h
          exact ⟨σ1, by rw [a1, if_neg v0], F1, a3, fun y => absurd y v0⟩
        · obtain ⟨τ1, a1, a2, a3, -⟩ := aM d τ wt Wt q0 q1 hb h
          exact ⟨τ1, 0, by rw [a1, if_neg v0, if_neg v0], a2, a3, fun y => absurd y v0⟩
    · by_cases z3 : chA n T pl = 33 ∨ chA n T pl = 40
      · have o6' : o = 6 := by omega
        refine ⟨-5000 - pl, 0, 0, K, by omega, by omega, fun y => by omega, fun d σ hd h => ?_, fun d τ wt Wt q0 q1 hb ht h => ?_⟩
        · obtain ⟨e, rfl⟩ : ∃ e, d = e + 2 := ⟨d - 2, by omega⟩
          exact ⟨σ, by rw [cTest_sp hq h hx p0 p1 o0 o6, if_neg z1, if_neg z2, if_pos z3], Fr.rf _ _, fun _ => h.sz s0 (by omega), fun y => by omega⟩
        · rcases z3 with z3 | z3
          · obtain ⟨τ1, a1, a2, a3⟩ := (opens_sp (op := 10) h o0 o6 (by omega) (by omega) p0 (by omega) (d := d + 6)).1 o6'
            have a1 : f_M_opens (d + 8) (zI 10) τ = rI (zI 0) τ1 := a1
            refine ⟨τ1, 0, ?_, a2, fun _ => a3, fun y => by omega⟩
            rw [lawC_sp h.1 hx p0 p1, if_pos z3, a1, cI_rI, if0z, if_neg (by omega)]
            rfl
          · obtain ⟨τ1, a1, a2, a3⟩ := (opens_sp (op := 13) h o0 o6 (by omega) (by omega) p0 (by omega) (d := d + 6)).1 o6'
            have a1 : f_M_opens (d + 8) (zI 13) τ = rI (zI 0) τ1 := a1
            refine ⟨τ1, 0, ?_, a2, fun _ => a3, fun y => by omega⟩
            rw [lawC_sp h.1 hx p0 p1, if_neg (by omega), if_pos z3, a1, cI_rI, if0z, if_neg (by omega)]
            rfl
      · obtain ⟨v, pl', s', K', b1, b2, b3, hN, hM⟩ := JX_cmp hq hx n240 pl o s K p0 p1 o0 o6 s0 sp ok
        refine ⟨v, pl', s', K', b1, b2, b3, fun d σ hd h => ?_, fun d τ wt Wt q0 q1 hb ht h => ?_⟩
        · obtain ⟨e, rfl⟩ : ∃ e, d = e + 2 := ⟨d - 2, by omega⟩
          obtain ⟨σ1, a1, a2⟩ := hN e σ (by omega) h
          exact ⟨σ1, by rw [cTest_sp hq h hx p0 p1 o0 o6, if_neg z1, if_neg z2, if_neg z3]; exact a1, a2⟩
        · obtain ⟨τ1, a1, a2⟩ := hM d τ wt Wt q0 q1 hb ht h
          exact ⟨τ1, d + 5, by rw [lawC_sp h.1 hx p0 p1, if_neg (fun y => z3 (Or.inl y)), if_neg (fun y => z3 (Or.inr y))]; exact a1, a2⟩
