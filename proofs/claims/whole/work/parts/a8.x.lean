/-! law: factors, terms, sums, in both -/
def SzOk (q : Nat) (σ : Sg) : Prop := ∃ z : Int, 0 ≤ z ∧ z ≤ 240 ∧ σ.1 q 5 = zI z
theorem CL.sz {q : Nat} {n : Int} {T : Int → Int} {pl s : Int} {K : KK} {σ : Sg} (h : CL q n T pl s K σ) (s0 : 0 ≤ s) (s1 : s ≤ 240) : SzOk q σ := ⟨s, s0, s1, h.2.1⟩
theorem now_any (d : Nat) (σ : Sg) : ∃ v, f_Tape_now (d + 1) σ = rI v σ := by
  rw [f_Tape_now_eq]
  obtain ⟨z, e, z0, z1⟩ := zI_ex (σ.1 5 2 + σ.1 5 4)
  rw [e, zI_0, show Int32.ofNat 260 = zI 260 from zI_ofNat 260, ifLe ⟨z0, z1⟩ (by decide), ifLe ⟨z0, z1⟩ (by decide)]
  by_cases h1 : σ.1 5 4 < σ.1 5 3
  · rw [if_pos h1]
    by_cases h2 : z < 0
    · exact ⟨_, by rw [if_pos h2]⟩
    · rw [if_neg h2]
      by_cases h3 : z < 260
      · exact ⟨_, by rw [if_pos h3, bnd_zI (by omega) (by omega) (by omega)]⟩
      · exact ⟨_, by rw [if_neg h3]⟩
  · exact ⟨_, by rw [if_neg h1]⟩
theorem emit_any {q : Nat} (hq : isL q) {σ : Sg} (h : SzOk q σ) (c w : Int32) (d : Nat) : ∃ σ', f_Law_emit (d + 1) q c w σ = rV σ' ∧ Fr (SLw q) σ σ' ∧ SzOk q σ' := by
  obtain ⟨z, z0, z1, e⟩ := h
  by_cases g : z < 240
  · refine ⟨sI (sI (sI σ (q + 5) z.toNat (vp_nar .char c)) q 5 (zI (z + 1))) (q + 6) z.toNat w, ?_, (((Fr.rf _ σ).sI _ (by simp [SLw])).sI _ (by simp [SLw])).sI _ (by simp [SLw]), z + 1, by omega, by omega, ?_⟩
    · rw [f_Law_emit_eq, gfI_of hq.s0, e, show (240 : Int32) = zI 240 from zI_lit 240, ifLe (by omega) (by decide), if_pos g, gfS_of hq.s0, gfI_of hq.s0, e, ofs_2_6, stC_of hq.s5 z0 (by omega) (by omega), gfS_of hq.s0, gfI_of hq.s0, sI_row _ _ _ _ _ (by omega), e, show (1 : Int32) = zI 1 from zI_lit 1, zI_add, pfI_of hq.s0, ofs_2_7, stI_of hq.s6 z0 (by omega) (by omega)]
    · rw [sI_row _ _ _ _ _ (by omega), sI_same]
  · exact ⟨σ, by rw [f_Law_emit_eq, gfI_of hq.s0, e, show (240 : Int32) = zI 240 from zI_lit 240, ifLe (by omega) (by decide), if_neg g], Fr.rf _ _, z, z0, z1, e⟩
def JF (q : Nat) (n : Int) (T : Int → Int) (F : Int) : Prop := ∀ (pl o s : Int) (K : KK), n - pl ≤ F → 0 ≤ pl → pl ≤ n → 0 ≤ o → o ≤ 6 → 0 ≤ s → s ≤ pl → KOk s K → ∃ (v pl' s' : Int) (K' : KK), -10000 < v ∧ v ≤ 0 ∧ (v = 0 → pl < pl' ∧ pl' ≤ n ∧ s < s' ∧ s' - s ≤ pl' - pl ∧ kAg s K K' ∧ KOk s' K' ∧ ∀ k, 13 - 2 * o ≤ k → WE K'.1 K'.2.1 false s s' k) ∧
  (∀ (d : Nat) σ, 26 ≤ (d : Int) + 3 * o → CL q n T pl s K σ → ∃ σ', f_LawReader_readFactor d q (zI o) σ = rI (zI v) σ' ∧ Fr (SLw q) σ σ' ∧ (v < 0 → SzOk q σ') ∧ (v = 0 → CL q n T pl' s' K' σ')) ∧
  (∀ (d : Nat) τ base wt Wt, 0 ≤ base → base ≤ wt → wt ≤ pl → BW wt Wt → ML n T pl o s K wt Wt τ → ∃ τ', lawF d base τ = (if v = 0 then lawS d base τ' else rI (zI 0) τ') ∧ Fr SLm τ τ' ∧ (v < 0 → τ'.1 102 10 = zI v) ∧ (v = 0 → ML n T pl' o s' K' wt Wt τ'))
def JT (q : Nat) (n : Int) (T : Int → Int) (F : Int) : Prop := ∀ (pl o s : Int) (K : KK), n - pl ≤ F → 0 ≤ pl → pl ≤ n → 0 ≤ o → o ≤ 6 → 0 ≤ s → s ≤ pl → KOk s K → ∃ (v pl' s' : Int) (K' : KK), -10000 < v ∧ v ≤ 0 ∧ (v = 0 → pl < pl' ∧ pl' ≤ n ∧ s < s' ∧ s' - s ≤ pl' - pl ∧ kAg s K K' ∧ KOk s' K' ∧ lsgn (chA n T pl') < 4 ∧ ∀ k, 14 - 2 * o ≤ k → WE K'.1 K'.2.1 false s s' k) ∧
  (∀ (d : Nat) σ, 27 ≤ (d : Int) + 3 * o → CL q n T pl s K σ → ∃ σ', f_LawReader_readTerm d q (zI o) σ = rI (zI v) σ' ∧ Fr (SLw q) σ σ' ∧ (v < 0 → SzOk q σ') ∧ (v = 0 → CL q n T pl' s' K' σ')) ∧
  (∀ (d : Nat) τ base wt Wt, 0 ≤ base → base ≤ wt → wt ≤ pl → BW wt Wt → ¬ (4 ≤ wtop wt Wt ∧ wtop wt Wt ≤ 6) → ML n T pl o s K wt Wt τ → ∃ τ', lawF d base τ = (if v = 0 then lawS d base τ' else rI (zI 0) τ') ∧ Fr SLm τ τ' ∧ (v < 0 → τ'.1 102 10 = zI v) ∧ (v = 0 → LzT n T pl' o s' K' wt Wt τ'))
def JS (q : Nat) (n : Int) (T : Int → Int) (F : Int) : Prop := ∀ (pl o s : Int) (K : KK), n - pl ≤ F → 0 ≤ pl → pl ≤ n → 0 ≤ o → o ≤ 6 → 0 ≤ s → s ≤ pl → KOk s K → ∃ (v pl' s' : Int) (K' : KK), -10000 < v ∧ v ≤ 0 ∧ (v = 0 → pl < pl' ∧ pl' ≤ n ∧ s < s' ∧ s' - s ≤ pl' - pl ∧ kAg s K K' ∧ KOk s' K' ∧ lsgn (chA n T pl') = -1 ∧ ∀ k, 15 - 2 * o ≤ k → WE K'.1 K'.2.1 false s s' k) ∧
  (∀ (d : Nat) σ, 28 ≤ (d : Int) + 3 * o → CL q n T pl s K σ → ∃ σ', f_LawReader_readSum d q (zI o) σ = rI (zI v) σ' ∧ Fr (SLw q) σ σ' ∧ (v < 0 → SzOk q σ') ∧ (v = 0 → CL q n T pl' s' K' σ')) ∧
  (∀ (d : Nat) τ base wt Wt, 0 ≤ base → base ≤ wt → wt ≤ pl → BW wt Wt → ¬ (2 ≤ wtop wt Wt ∧ wtop wt Wt ≤ 6) → ML n T pl o s K wt Wt τ → ∃ τ', lawF d base τ = (if v = 0 then lawS d base τ' else rI (zI 0) τ') ∧ Fr SLm τ τ' ∧ (v < 0 → τ'.1 102 10 = zI v) ∧ (v = 0 → LzS n T pl' o s' K' wt Wt τ'))
theorem rf0_eq (d : Nat) (σ : Sg) : f_M_readsFactor (d + 1) σ = f_M_readsFactor_0 d .null σ := (f_M_readsFactor_eq d σ).trans (f_M_readsFactor_0_eq d .null σ).symm
theorem rfac_sp {n : Int} {T : Int → Int} {pl : Int} {τ : Sg} (h : MP n T pl τ) (hx : TX n T) (p0 : 0 ≤ pl) (p1 : pl ≤ n) {d : Nat} : f_M_readsFactor (d + 6) τ = if chA n T pl = 91 then (cI (f_M_opens (d + 5) (zI 14) τ) fun v4 σ3 => if v4 = 0 then (rZ 0 σ3) else (f_M_readsFactor (d + 6) σ3)) else if 48 ≤ chA n T pl ∧ chA n T pl ≤ 57 then (cI (f_M_readsNumber (d + 5) τ) fun v16 σ15 => if v16 = 0 then (rZ 0 σ15) else (cV (f_M_notes (d + 5) (zI 0) (σ15.1 102 11) σ15) fun σ17 => rI (zI 1) σ17)) else if facI (chA n T pl) = -1 then rI (zI 0) (sI τ 102 10 (zI (-1000 - pl))) else (cV (f_M_notes (d + 5) (zI 1) (zI (facI (chA n T pl))) τ) fun σ13 => rI (zI 1) (sI σ13 102 8 ((σ13.1 102 8) + zI 1))) := by
  obtain ⟨c0, c1, -⟩ := hx.ch p0
  obtain ⟨g0, g1⟩ := facI_b (chA n T pl)
  rw [f_M_readsFactor_eq, h.here hx p0 p1, cI_rI, show (91 : Int32) = zI 91 from zI_lit 91, ifEq (by omega) (by decide)]
  by_cases z : chA n T pl = 91
  · rw [if_pos z, if_pos z, show (14 : Int32) = zI 14 from zI_lit 14]
    simp only [← rf0_eq]
  · rw [if_neg z, if_neg z, h.dig hx p0 p1, cI_rI, ifBz]
    by_cases z2 : 48 ≤ chA n T pl ∧ chA n T pl ≤ 57
    · rw [if_pos z2, if_pos z2, zI_0, show (1 : Int32) = zI 1 from zI_lit 1]; rfl
    · rw [if_neg z2, if_neg z2, h.here hx p0 p1, cI_rI, factOf_sp c0 c1, cI_rI, show (-1 : Int32) = zI (-1) from rfl, ifEq (by omega) (by decide)]
      by_cases z3 : facI (chA n T pl) = -1
      · rw [if_pos z3, if_pos z3, h.2.1, show (1 : Int32) = zI 1 from zI_lit 1, wrongAt_sp, cI_rI, rZ_z0]; rfl
      · rw [if_neg z3, if_neg z3, show (1 : Int32) = zI 1 from zI_lit 1]; rfl
theorem JF_of {q : Nat} (hq : isL q) {n : Int} {T : Int → Int} (hx : TX n T) (n240 : n ≤ 240) {F : Int} (hS : JS q n T (F - 1)) : JF q n T F := by
  intro pl o s K hF p0 p1 o0 o6 s0 sp ok
  obtain ⟨c0, c1, c2⟩ := hx.ch p0
  have n260 := hx.2.1
  have rN : ∀ (e : Nat) σ, CL q n T pl s K σ → f_LawReader_readFactor (e + 8) q (zI o) σ = if 48 ≤ chA n T pl ∧ chA n T pl ≤ 57 then (cI (f_LawReader_readNumber (e + 7) q σ) fun v13 σ12 => rI v13 σ12) else if chA n T pl = 91 then (if o = 6 then rI (zI (-5000 - pl)) σ else (cI (f_LawReader_readSum (e + 7) q (zI (o + 1)) (sI σ 5 4 (zI (pl + 1)))) fun v9 σ8 => if v9 = 0 then (cI (f_Tape_sign (e + 7) (zI 93) σ8) fun v11 σ10 => rI v11 σ10) else (rI v9 σ8))) else (f_LawReader_readFactor_76 (e + 7) q (.int (zI o)) (zI (chA n T pl)) (zI 0) σ) := fun e σ h => by
    rw [f_LawReader_readFactor_eq, h.1.now hx p0 p1, cI_rI, isDig_sp c0 c1, cI_rI, ifBz]
    by_cases z : 48 ≤ chA n T pl ∧ chA n T pl ≤ 57
    · rw [if_pos z, if_pos z]
    · rw [if_neg z, if_neg z, show (91 : Int32) = zI 91 from zI_lit 91, ifEq (by omega) (by decide)]
      by_cases z2 : chA n T pl = 91
      · rw [if_pos z2, if_pos z2, show (6 : Int32) = zI 6 from zI_lit 6, ifEq (by omega) (by decide)]
        by_cases z3 : o = 6
        · rw [if_pos z3, if_pos z3, show (5 : Int32) = zI 5 from zI_lit 5, tfaultZ h.1.2, cI_rI]; rfl
        · rw [if_neg z3, if_neg z3]
          dsimp only
          rw [h.1.nx, show (1 : Int32) = zI 1 from zI_lit 1, zI_add, show (93 : Int32) = zI 93 from zI_lit 93]
      · rw [if_neg z2, if_neg z2, zI_0]
  by_cases z1 : 48 ≤ chA n T pl ∧ chA n T pl ≤ 57
  · have pn : pl < n := c2 (by omega)
    obtain ⟨v, u, pl', b1, b2, b3, hN, hM⟩ := numL hq hx n240 p0 s0 (show s < 240 by omega) z1 (K := K) 5 0 0 (by decide) (by decide) (by omega) (by decide) (Or.inl ⟨rfl, rfl⟩)
    rw [Int.add_zero] at hN hM
    refine ⟨v, pl', s + 1, kPut K s 35 u u, b1, b2, fun z => ?_, fun d σ hd h => ?_, fun d τ base wt Wt q0 q1 q2 hb h => ?_⟩
    · obtain ⟨u0, u9, l0, l1⟩ := b3 z
      refine ⟨l0, l1, by omega, by omega, kAg_put K, ok.put (Or.inl ⟨rfl, rfl, u0, by omega⟩), fun k hk => WE.at1 (by omega) (Or.inl (mup_same _ _ _))⟩
    · obtain ⟨e, rfl⟩ : ∃ e, d = e + 8 := ⟨d - 8, by omega⟩
      obtain ⟨σ', a1, a2, a3, a4⟩ := hN (e + 4) σ h
      refine ⟨σ', ?_, a2, fun z => ⟨s, s0, by omega, a3 z⟩, a4⟩
      rw [rN e σ h, if_pos z1, f_LawReader_readNumber_eq, zI_0]
      have a1 : f_LawReader_readNumber_4 (e + 6) q (zI 0) (zI 0) σ = rI (zI v) σ' := a1
      rw [a1, cI_rI]
    · have hm1 : ML n T pl o s K wt Wt (sI τ 102 11 (zI 0)) := ⟨h.1.fr (S := SLm) ((Fr.rf _ τ).sI _ rfl) rfl (fun _ => rfl) ((sI_slot _ _ _ _ (by decide)).trans h.1.2.1), (sI_slot _ _ _ _ (by decide)).trans h.2.1, (sI_slot _ _ _ _ (by decide)).trans h.2.2.1, (sI_slot _ _ _ _ (by decide)).trans h.2.2.2.1, fun j j0 j1 => (sI_row _ _ _ _ _ (by decide)).trans (h.2.2.2.2.1 j j0 j1), fun j j0 j1 => (sI_row _ _ _ _ _ (by decide)).trans (h.2.2.2.2.2 j j0 j1)⟩
      obtain ⟨τ1, a1, a2, a3, a4⟩ := hM (d + 1) _ o wt Wt hm1 (sI_same _ _ _ _)
      have e1 : f_M_readsNumber (d + 5) τ = rI (bz (decide (v = 0))) τ1 := by
        rw [f_M_readsNumber_eq, h.1.2.1, zI_0]
        exact a1
      have F1 : Fr SLm τ τ1 := ((Fr.rf _ τ).sI _ rfl).tr a2
      by_cases z : v = 0
      · obtain ⟨g, eu⟩ := a4 z
        obtain ⟨τ2, d1, d2, d3, -⟩ := notes_sp (op := 0) (v := u) (c := 35) (w := u) g s0 (by omega) (d := d + 4)
        have d1 : f_M_notes (d + 5) (zI 0) (zI u) τ1 = rV τ2 := d1
        refine ⟨τ2, ?_, F1.tr d2, fun z => by omega, fun _ => ?_⟩
        · unfold lawF
          rw [rfac_sp h.1 hx p0 p1, if_neg (by omega), if_pos z1, e1, cI_rI, ifBz, if_pos z, eu, d1, cV_rV, cI_rI, if1z, if_pos z]
        · rw [show (1048576 * 0 + u : Int) = u by omega] at d3; exact d3
      · refine ⟨τ1, ?_, F1, a3, fun y => absurd y z⟩
        unfold lawF
        rw [rfac_sp h.1 hx p0 p1, if_neg (by omega), if_pos z1, e1, cI_rI, ifBz, if_neg z, if_neg z]
        rfl
  · by_cases z2 : chA n T pl = 91
    · have pn : pl < n := c2 (by omega)
      by_cases z3 : o = 6
      · refine ⟨-5000 - pl, 0, 0, K, by omega, by omega, fun z => by omega, fun d σ hd h => ?_, fun d τ base wt Wt q0 q1 q2 hb h => ?_⟩
        · obtain ⟨e, rfl⟩ : ∃ e, d = e + 8 := ⟨d - 8, by omega⟩
          exact ⟨σ, by rw [rN e σ h, if_neg z1, if_pos z2, if_pos z3], Fr.rf _ _, fun _ => h.sz s0 (by omega), fun z => by omega⟩
        · obtain ⟨τ1, a1, a2, a3⟩ := (opens_sp (op := 14) h o0 o6 (by omega) (by omega) p0 (by omega) (d := d + 3)).1 z3
          have a1 : f_M_opens (d + 5) (zI 14) τ = rI (zI 0) τ1 := a1
          refine ⟨τ1, ?_, a2, fun _ => a3, fun z => by omega⟩
          unfold lawF
          rw [rfac_sp h.1 hx p0 p1, if_pos z2, a1, cI_rI, if0z, if_neg (by omega)]
          rfl
      · obtain ⟨v1, pl1, s1, K1, b1, b2, b3, hN, hM⟩ := hS (pl + 1) (o + 1) s K (by omega) (by omega) (by omega) (by omega) (by omega) s0 (by omega) ok
        have aN : ∀ (e : Nat) σ, 26 ≤ ((e + 8 : Nat) : Int) + 3 * o → CL q n T pl s K σ → ∃ σ', Fr (SLw q) σ σ' ∧ (v1 < 0 → SzOk q σ') ∧ (v1 = 0 → CL q n T pl1 s1 K1 σ') ∧ f_LawReader_readFactor (e + 8) q (zI o) σ = if v1 = 0 then (cI (f_Tape_sign (e + 7) (zI 93) σ') fun v11 σ10 => rI v11 σ10) else rI (zI v1) σ' := fun e σ hd h => by
          obtain ⟨σ', a1, a2, a3, a4⟩ := hN (e + 7) _ (by omega) (h.up hq (pl + 1))
          exact ⟨σ', ((Fr.rf _ σ).sI _ (by simp [SLw])).tr a2, a3, a4, by rw [rN e σ h, if_neg z1, if_pos z2, if_neg z3, a1, cI_rI, ifV b2 b1]⟩
        have aM : ∀ (d : Nat) τ base wt Wt, 0 ≤ base → base ≤ wt → wt ≤ pl → BW wt Wt → ML n T pl o s K wt Wt τ → ∃ τ', lawF d base τ = (if v1 = 0 then lawS d base τ' else rI (zI 0) τ') ∧ Fr SLm τ τ' ∧ (v1 < 0 → τ'.1 102 10 = zI v1) ∧ (v1 = 0 → LzS n T pl1 (o + 1) s1 K1 (wt + 1) (mup Wt wt (1048576 * 14)) τ') := fun d τ base wt Wt q0 q1 q2 hb h => by
          obtain ⟨τ1, a1, a2, a3⟩ := (opens_sp (op := 14) h o0 o6 (by omega) (by omega) p0 (by omega) (d := d + 3)).2 (by omega)
          have a1 : f_M_opens (d + 5) (zI 14) τ = rI (zI 1) τ1 := a1
          have t : wtop (wt + 1) (mup Wt wt (1048576 * 14)) = 14 := by rw [wtop_up (by omega)]; omega
          obtain ⟨τ2, d1, d2, d3, d4⟩ := hM d τ1 base (wt + 1) _ q0 (by omega) (by omega) (hb.up (by omega) (by omega)) (by omega) a3
          refine ⟨τ2, ?_, a2.tr d2, d3, d4⟩
          rw [← d1]
          unfold lawF
          rw [rfac_sp h.1 hx p0 p1, if_pos z2, a1, cI_rI, if1z]
        by_cases v0 : v1 = 0
        · subst v0
          obtain ⟨l0, l1, l2, l3, ag, ok1, sg, we⟩ := b3 rfl
          by_cases z4 : chA n T pl1 = 93
          · have pn1 : pl1 < n := (hx.ch (show 0 ≤ pl1 by omega)).2.2 (by omega)
            refine ⟨0, pl1 + 1, s1, K1, by decide, by decide, fun _ => ⟨by omega, by omega, l2, by omega, ag, ok1, fun k hk => we k (by omega)⟩, fun d σ hd h => ?_, fun d τ base wt Wt q0 q1 q2 hb h => ?_⟩
            · obtain ⟨e, rfl⟩ : ∃ e, d = e + 8 := ⟨d - 8, by omega⟩
              obtain ⟨σ1, F1, -, a2, a1⟩ := aN e σ hd h
              have h1 := a2 rfl
              have sg := sign_sp (c := 93) h1.1 hx (by omega) l1 (by decide) (by decide) (d := e + 5)
              have sg : f_Tape_sign (e + 7) (zI 93) σ1 = _ := sg
              exact ⟨_, by rw [a1, if_pos rfl, sg, if_pos z4, cI_rI], F1.sI _ (by simp [SLw]), fun z => by omega, fun _ => h1.up hq (pl1 + 1)⟩
            · obtain ⟨τ1, a1, a2, -, a4⟩ := aM d τ base wt Wt q0 q1 q2 hb h
              obtain ⟨τ2, d1, d2, d3⟩ := lawS_close hx (show 0 ≤ pl1 by omega) l1 (a4 rfl) z4 hb (by omega) (by omega) (by omega) q0 q1 (d := d)
              exact ⟨τ2, by rw [a1, if_pos rfl, d1, if_pos rfl], a2.tr d2, fun z => by omega, fun _ => d3⟩
          · refine ⟨-1000 - pl1, 0, 0, K, by omega, by omega, fun z => by omega, fun d σ hd h => ?_, fun d τ base wt Wt q0 q1 q2 hb h => ?_⟩
            · obtain ⟨e, rfl⟩ : ∃ e, d = e + 8 := ⟨d - 8, by omega⟩
              obtain ⟨σ1, F1, -, a2, a1⟩ := aN e σ hd h
              have h1 := a2 rfl
              have sg := sign_sp (c := 93) h1.1 hx (by omega) l1 (by decide) (by decide) (d := e + 5)
              have sg : f_Tape_sign (e + 7) (zI 93) σ1 = _ := sg
              exact ⟨σ1, by rw [a1, if_pos rfl, sg, if_neg z4, cI_rI], F1, fun _ => h1.sz (by omega) (by omega), fun z => by omega⟩
            · obtain ⟨τ1, a1, a2, -, a4⟩ := aM d τ base wt Wt q0 q1 q2 hb h
              have d1 := lawS_bad hx (show 0 ≤ pl1 by omega) l1 (a4 rfl) sg z4 hb (by omega) (by omega) q0 q1 (d := d)
              exact ⟨_, by rw [a1, if_pos rfl, d1, if_neg (by omega)], a2.sI (a := 102) (k := 10) (zI (-1000 - pl1)) rfl, fun _ => sI_same _ _ _ _, fun z => by omega⟩
        · refine ⟨v1, 0, 0, K, b1, b2, fun z => absurd z v0, fun d σ hd h => ?_, fun d τ base wt Wt q0 q1 q2 hb h => ?_⟩
          · obtain ⟨e, rfl⟩ : ∃ e, d = e + 8 := ⟨d - 8, by omega⟩
            obtain ⟨σ1, F1, a3, -, a1⟩ := aN e σ hd h
            exact ⟨σ1, by rw [a1, if_neg v0], F1, a3, fun z => absurd z v0⟩
          · obtain ⟨τ1, a1, a2, a3, -⟩ := aM d τ base wt Wt q0 q1 q2 hb h
            exact ⟨τ1, a1, a2, a3, fun z => absurd z v0⟩
    · obtain ⟨g0, g1⟩ := facI_b (chA n T pl)
      by_cases z3 : facI (chA n T pl) = -1
      · refine ⟨-1000 - pl, 0, 0, K, by omega, by omega, fun z => by omega, fun d σ hd h => ?_, fun d τ base wt Wt q0 q1 q2 hb h => ?_⟩
        · obtain ⟨e, rfl⟩ : ∃ e, d = e + 8 := ⟨d - 8, by omega⟩
          have a1 := (letter_sp hq h c0 c1 s0 (d := e + 6) (x2 := .int (zI o))).1 z3
          have a1 : f_LawReader_readFactor_76 (e + 7) q (.int (zI o)) (zI (chA n T pl)) (zI 0) σ = rI (zI (-1000 - pl)) σ := a1
          exact ⟨σ, by rw [rN e σ h, if_neg z1, if_neg z2, a1], Fr.rf _ _, fun _ => h.sz s0 (by omega), fun z => by omega⟩
        · refine ⟨_, ?_, (Fr.rf _ τ).sI (a := 102) (k := 10) (zI (-1000 - pl)) rfl, fun _ => sI_same _ _ _ _, fun z => by omega⟩
          unfold lawF
          rw [rfac_sp h.1 hx p0 p1, if_neg z2, if_neg z1, if_pos z3, cI_rI, if0z, if_neg (by omega)]
          rfl
      · have pn : pl < n := by
          refine c2 ?_
          by_cases y : 0 ≤ chA n T pl
          · exact y
          · exact absurd (show facI (chA n T pl) = -1 by rw [show chA n T pl = -1 by omega]; rfl) z3
        refine ⟨0, pl + 1, s + 1, kPut K s 97 (facI (chA n T pl)) (1048576 + facI (chA n T pl)), by decide, by decide, fun _ => ⟨by omega, by omega, by omega, by omega, kAg_put K, ok.put (Or.inr (Or.inl ⟨rfl, rfl, by omega, g1⟩)), fun k hk => WE.at1 (by omega) (Or.inr ⟨mup_same _ _ _, by unfold kPut; dsimp only; rw [mup_same]; omega, by unfold kPut; dsimp only; rw [mup_same]; exact g1⟩)⟩, fun d σ hd h => ?_, fun d τ base wt Wt q0 q1 q2 hb h => ?_⟩
        · obtain ⟨e, rfl⟩ : ∃ e, d = e + 8 := ⟨d - 8, by omega⟩
          obtain ⟨σ', a1, a2, a3⟩ := (letter_sp hq h c0 c1 s0 (d := e + 6) (x2 := .int (zI o))).2 z3 (by omega)
          have a1 : f_LawReader_readFactor_76 (e + 7) q (.int (zI o)) (zI (chA n T pl)) (zI 0) σ = rI (zI 0) σ' := a1
          exact ⟨σ', by rw [rN e σ h, if_neg z1, if_neg z2, a1], a2, fun z => by omega, fun _ => a3⟩
        · obtain ⟨τ2, d1, d2, d3, d4⟩ := notes_sp (op := 1) (v := facI (chA n T pl)) (c := 97) (w := facI (chA n T pl)) h s0 (by omega) (d := d + 4)
          have d1 : f_M_notes (d + 5) (zI 1) (zI (facI (chA n T pl))) τ = rV τ2 := d1
          refine ⟨sI τ2 102 8 (zI (pl + 1)), ?_, d2.sI _ rfl, fun z => by omega, fun _ => d3.up (pl + 1)⟩
          unfold lawF
          rw [rfac_sp h.1 hx p0 p1, if_neg z2, if_neg z1, if_neg z3, d1, cV_rV, cI_rI, if1z, d3.1.2.1, zI_add, if_pos rfl]
