/-! law: a condition, in both -/
theorem JC_all {q : Nat} (hq : isL q) {n : Int} {T : Int → Int} (hx : TX n T) (n240 : n ≤ 240) : ∀ F : Nat, JX q n T F ∧ JC q n T F := by
  intro F
  induction F with
  | zero =>
    have e1 : JX q n T (0 - 1) := fun pl o s K hF p0 p1 => by omega
    have e2 : JC q n T (0 - 1) := fun pl o s K hF p0 p1 => by omega
    have x := JX_of hq hx n240 e1 e2
    exact ⟨x, JC_of hq hx n240 (JP_of hq hx n240 x)⟩
  | succ F ih =>
    have e : ((F + 1 : Nat) : Int) - 1 = (F : Int) := by omega
    have x : JX q n T ((F + 1 : Nat) : Int) := JX_of hq hx n240 (by rw [e]; exact ih.1) (by rw [e]; exact ih.2)
    exact ⟨x, JC_of hq hx n240 (JP_of hq hx n240 x)⟩
/-- from the ( to the ) of a clause -/
theorem condBoth {q : Nat} (hq : isL q) {n : Int} {T : Int → Int} (hx : TX n T) (n240 : n ≤ 240) (pl s : Int) (K : KK) (p0 : 0 ≤ pl) (p1 : pl ≤ n) (s0 : 0 ≤ s) (sp : s ≤ pl) (ok : KOk s K) : ∃ (v pl' s' : Int) (K' : KK), -10000 < v ∧ v ≤ 0 ∧ (v = 0 → pl < pl' ∧ pl' ≤ n ∧ s < s' ∧ s' - s ≤ pl' - pl ∧ kAg s K K' ∧ KOk s' K' ∧ WE K'.1 K'.2.1 true s s' 60) ∧
  (∀ (d : Nat) σ, CL q n T pl s K σ → ∃ σ', (if chA n T pl = 40 then f_LawReader_readBracket (d + 40) q (zI 1) σ else rI (zI (-1000 - pl)) σ) = rI (zI v) σ' ∧ Fr (SLw q) σ σ' ∧ (v < 0 → SzOk q σ') ∧ (v = 0 → CL q n T pl' s' K' σ')) ∧
  (∀ (d : Nat) τ o wt Wt, ML n T pl o s K wt Wt τ → ∃ τ' o' wt' Wt', f_M_readsCondition (d + 9) τ = rI (bz (decide (v = 0))) τ' ∧ Fr SLm τ τ' ∧ (v < 0 → τ'.1 102 10 = zI v) ∧ (v = 0 → ML n T pl' o' s' K' wt' Wt' τ')) := by
  have n260 := hx.2.1
  obtain ⟨c0, c1, c2⟩ := hx.ch p0
  by_cases z : chA n T pl = 40
  · have pn : pl < n := c2 (by omega)
    obtain ⟨v1, pl1, s1, K1, b1, b2, b3, hN, hM⟩ := (JC_all hq hx n240 (n - pl).toNat).2 (pl + 1) 1 s K (by omega) (by omega) (by omega) (by decide) (by decide) s0 (by omega) ok
    have aN : ∀ (d : Nat) σ, CL q n T pl s K σ → ∃ σ', Fr (SLw q) σ σ' ∧ (v1 < 0 → SzOk q σ') ∧ (v1 = 0 → CL q n T pl1 s1 K1 σ') ∧ f_LawReader_readBracket (d + 40) q (zI 1) σ = if v1 = 0 then (cI (f_Tape_sign (d + 39) (zI 41) σ') fun v5 σ4 => rI v5 σ4) else rI (zI v1) σ' := fun d σ h => by
      obtain ⟨σ1, a1, a2, a3, a4⟩ := hN (d + 39) _ (by omega) (h.up hq (pl + 1))
      refine ⟨σ1, ((Fr.rf _ σ).sI _ (by simp [SLw])).tr a2, a3, a4, ?_⟩
      rw [f_LawReader_readBracket_eq]
      dsimp only
      rw [h.1.nx, a1, cI_rI, ifV b2 b1, show (41 : Int32) = zI 41 from zI_lit 41]
    have aM : ∀ (d : Nat) τ o wt Wt, ML n T pl o s K wt Wt τ → ∃ τ', f_M_readsCondition (d + 9) τ = (if v1 = 0 then lawD d τ' else rI (zI 0) τ') ∧ Fr SLm τ τ' ∧ (v1 < 0 → τ'.1 102 10 = zI v1) ∧ (v1 = 0 → LzC n T pl1 (0 + 1) s1 K1 (0 + 1) (mup (fun _ => 0) 0 (1048576 * 13)) τ') := fun d τ o wt Wt h => by
      have g : ML n T pl 0 s K 0 (fun _ => 0) (sI (sI τ 102 12 (zI 0)) 102 14 (zI 0)) := by
        have F : Fr SLm τ (sI (sI τ 102 12 (zI 0)) 102 14 (zI 0)) := ((Fr.rf _ τ).sI _ rfl).sI _ rfl
        refine ⟨h.1.fr F rfl (fun _ => rfl) ?_, ?_, ?_, sI_same _ _ _ _, fun j j0 j1 => ?_, fun j j0 j1 => by omega⟩
        · rw [sI_slot _ _ _ _ (by decide), sI_slot _ _ _ _ (by decide)]; exact h.1.2.1
        · rw [sI_slot _ _ _ _ (by decide), sI_same]
        · rw [sI_slot _ _ _ _ (by decide), sI_slot _ _ _ _ (by decide)]; exact h.2.2.1
        · rw [sI_row _ _ _ _ _ (by decide), sI_row _ _ _ _ _ (by decide)]; exact h.2.2.2.2.1 j j0 j1
      have bw : BW 0 (fun _ => (0 : Int)) := fun j j0 j1 => by omega
      obtain ⟨τ1, a1, a2, a3⟩ := (opens_sp (op := 13) g (by decide) (by decide) (by decide) (by decide) p0 (by omega) (d := d + 6)).2 (by decide)
      have a1 : f_M_opens (d + 8) (zI 13) (sI (sI τ 102 12 (zI 0)) 102 14 (zI 0)) = rI (zI 1) τ1 := a1
      obtain ⟨τ2, f1, f2, f3, f4⟩ := hM d τ1 (0 + 1) _ (by decide) (by omega) (bw.up (by decide) (by decide)) (by rw [wtop_up (by decide)]; rfl) a3
      refine ⟨τ2, ?_, (((Fr.rf SLm τ).sI _ rfl).sI _ rfl).tr (a2.tr f2), f3, f4⟩
      have H := h.1.here hx p0 p1 (d := d + 7)
      have H : f_M_here (d + 8) τ = rI (zI (chA n T pl)) τ := H
      rw [f_M_readsCondition_eq, H, cI_rI, z, show (40 : Int32) = zI 40 from zI_lit 40, if_pos rfl]
      dsimp only
      rw [show (13 : Int32) = zI 13 from zI_lit 13, zI_0, a1, cI_rI, ← zI_0, if1z]
      exact f1
    by_cases v0 : v1 = 0
    · subst v0
      obtain ⟨l0, l1, l2, l3, ag, ok1, n38, n124, we⟩ := b3 rfl
      by_cases z3 : chA n T pl1 = 41
      · have pn1 : pl1 < n := (hx.ch (show 0 ≤ pl1 by omega)).2.2 (by omega)
        refine ⟨0, pl1 + 1, s1, K1, by decide, by decide, fun _ => ⟨by omega, by omega, l2, by omega, ag, ok1, we 60 (by decide)⟩, fun d σ h => ?_, fun d τ o wt Wt h => ?_⟩
        · obtain ⟨σ1, F1, -, a4, a1⟩ := aN d σ h
          have h1 := a4 rfl
          have sg := sign_sp (c := 41) h1.1 hx (by omega) l1 (by decide) (by decide) (d := d + 37)
          have sg : f_Tape_sign (d + 39) (zI 41) σ1 = _ := sg
          exact ⟨_, by rw [if_pos z, a1, if_pos rfl, sg, if_pos z3, cI_rI], F1.sI _ (by simp [SLw]), fun y => by omega, fun _ => h1.up hq (pl1 + 1)⟩
        · obtain ⟨τ1, a1, a2, -, a4⟩ := aM d τ o wt Wt h
          obtain ⟨τ2, f1, -, f2, f3⟩ := lawD_cl hx (show 0 ≤ pl1 by omega) l1 (a4 rfl) z3 (fun j j0 j1 => by omega) (by decide) (by decide) (by omega) (d := d)
          exact ⟨τ2, 0, 0, _, by rw [a1, if_pos rfl, f1 rfl, bzz], a2.tr f2, fun y => by omega, fun _ => f3⟩
      · refine ⟨-1000 - pl1, 0, 0, K, by omega, by omega, fun y => by omega, fun d σ h => ?_, fun d τ o wt Wt h => ?_⟩
        · obtain ⟨σ1, F1, -, a4, a1⟩ := aN d σ h
          have h1 := a4 rfl
          have sg := sign_sp (c := 41) h1.1 hx (by omega) l1 (by decide) (by decide) (d := d + 37)
          have sg : f_Tape_sign (d + 39) (zI 41) σ1 = _ := sg
          exact ⟨σ1, by rw [if_pos z, a1, if_pos rfl, sg, if_neg z3, cI_rI], F1, fun _ => h1.sz (by omega) (by omega), fun y => by omega⟩
        · obtain ⟨τ1, a1, a2, -, a4⟩ := aM d τ o wt Wt h
          have f1 := (lawD_sp (a4 rfl).mp hx (show 0 ≤ pl1 by omega) l1 (d := d)).2.2.2 z3 n38 n124
          exact ⟨_, 0, 0, fun _ => 0, by rw [a1, if_pos rfl, f1, bzn (by omega)], a2.sI (a := 102) (k := 10) (zI (-1000 - pl1)) rfl, fun _ => sI_same _ _ _ _, fun y => by omega⟩
    · refine ⟨v1, 0, 0, K, b1, b2, fun y => absurd y v0, fun d σ h => ?_, fun d τ o wt Wt h => ?_⟩
      · obtain ⟨σ1, F1, a3, -, a1⟩ := aN d σ h
        exact ⟨σ1, by rw [if_pos z, a1, if_neg v0], F1, a3, fun y => absurd y v0⟩
      · obtain ⟨τ1, a1, a2, a3, -⟩ := aM d τ o wt Wt h
        exact ⟨τ1, 0, 0, fun _ => 0, by rw [a1, if_neg v0, bzn (by omega)], a2, a3, fun y => absurd y v0⟩
  · refine ⟨-1000 - pl, 0, 0, K, by omega, by omega, fun y => by omega, fun d σ h => ⟨σ, by rw [if_neg z], Fr.rf _ _, fun _ => h.sz s0 (by omega), fun y => by omega⟩, fun d τ o wt Wt h => ⟨_, 0, 0, fun _ => 0, ?_, (Fr.rf _ τ).sI (a := 102) (k := 10) (zI (-1000 - pl)) rfl, fun _ => sI_same _ _ _ _, fun y => by omega⟩⟩
    have H := h.1.here hx p0 p1 (d := d + 7)
    have H : f_M_here (d + 8) τ = rI (zI (chA n T pl)) τ := H
    rw [f_M_readsCondition_eq, H, cI_rI, show (40 : Int32) = zI 40 from zI_lit 40, ifEq (by omega) (by decide), if_neg z, h.1.2.1, show (1 : Int32) = zI 1 from zI_lit 1, wrongAt_sp, cI_rI, rZ_z0, bzn (by omega)]
    rfl
