/-! law: letters and numbers, in both -/
def facI (c : Int) : Int := if c = 110 then 0 else if c = 109 then 1 else if c = 118 then 2 else if c = 107 then 3 else if c = 97 then 4 else if c = 112 then 5 else if c = 116 then 6 else if c = 113 then 7 else -1
def facL (i : Int) : Int := if i = 0 then 110 else if i = 1 then 109 else if i = 2 then 118 else if i = 3 then 107 else if i = 4 then 97 else if i = 5 then 112 else if i = 6 then 116 else 113
theorem facI_b (c : Int) : -1 ≤ facI c ∧ facI c < 8 := by
  unfold facI
  repeat' split
  all_goals decide
theorem factOf_sp {c : Int} (c0 : -1 ≤ c) (c1 : c < 256) {d : Nat} {σ : Sg} : f_M_factOf (d + 1) (zI c) σ = rI (zI (facI c)) σ := by
  rw [f_M_factOf_eq, show (97 : Int32) = zI 97 from zI_lit 97, ifEq (by omega) (by decide), show (98 : Int32) = zI 98 from zI_lit 98, ifEq (by omega) (by decide), show (99 : Int32) = zI 99 from zI_lit 99, ifEq (by omega) (by decide), show (100 : Int32) = zI 100 from zI_lit 100, ifEq (by omega) (by decide), show (101 : Int32) = zI 101 from zI_lit 101, ifEq (by omega) (by decide), show (102 : Int32) = zI 102 from zI_lit 102, ifEq (by omega) (by decide), show (103 : Int32) = zI 103 from zI_lit 103, ifEq (by omega) (by decide), show (104 : Int32) = zI 104 from zI_lit 104, ifEq (by omega) (by decide), show (105 : Int32) = zI 105 from zI_lit 105, ifEq (by omega) (by decide), show (106 : Int32) = zI 106 from zI_lit 106, ifEq (by omega) (by decide), show (107 : Int32) = zI 107 from zI_lit 107, ifEq (by omega) (by decide), show (108 : Int32) = zI 108 from zI_lit 108, ifEq (by omega) (by decide), show (109 : Int32) = zI 109 from zI_lit 109, ifEq (by omega) (by decide), show (110 : Int32) = zI 110 from zI_lit 110, ifEq (by omega) (by decide), show (111 : Int32) = zI 111 from zI_lit 111, ifEq (by omega) (by decide), show (112 : Int32) = zI 112 from zI_lit 112, ifEq (by omega) (by decide), show (113 : Int32) = zI 113 from zI_lit 113, ifEq (by omega) (by decide), show (114 : Int32) = zI 114 from zI_lit 114, ifEq (by omega) (by decide), show (115 : Int32) = zI 115 from zI_lit 115, ifEq (by omega) (by decide), show (116 : Int32) = zI 116 from zI_lit 116, ifEq (by omega) (by decide), show (117 : Int32) = zI 117 from zI_lit 117, ifEq (by omega) (by decide), show (118 : Int32) = zI 118 from zI_lit 118, ifEq (by omega) (by decide)]
  by_cases h97 : c = 97
  · subst h97; rfl
  rw [if_neg h97]
  by_cases h98 : c = 98
  · subst h98; rfl
  rw [if_neg h98]
  by_cases h99 : c = 99
  · subst h99; rfl
  rw [if_neg h99]
  by_cases h100 : c = 100
  · subst h100; rfl
  rw [if_neg h100]
  by_cases h101 : c = 101
  · subst h101; rfl
  rw [if_neg h101]
  by_cases h102 : c = 102
  · subst h102; rfl
  rw [if_neg h102]
  by_cases h103 : c = 103
  · subst h103; rfl
  rw [if_neg h103]
  by_cases h104 : c = 104
  · subst h104; rfl
  rw [if_neg h104]
  by_cases h105 : c = 105
  · subst h105; rfl
  rw [if_neg h105]
  by_cases h106 : c = 106
  · subst h106; rfl
  rw [if_neg h106]
  by_cases h107 : c = 107
  · subst h107; rfl
  rw [if_neg h107]
  by_cases h108 : c = 108
  · subst h108; rfl
  rw [if_neg h108]
  by_cases h109 : c = 109
  · subst h109; rfl
  rw [if_neg h109]
  by_cases h110 : c = 110
  · subst h110; rfl
  rw [if_neg h110]
  by_cases h111 : c = 111
  · subst h111; rfl
  rw [if_neg h111]
  by_cases h112 : c = 112
  · subst h112; rfl
  rw [if_neg h112]
  by_cases h113 : c = 113
  · subst h113; rfl
  rw [if_neg h113]
  by_cases h114 : c = 114
  · subst h114; rfl
  rw [if_neg h114]
  by_cases h115 : c = 115
  · subst h115; rfl
  rw [if_neg h115]
  by_cases h116 : c = 116
  · subst h116; rfl
  rw [if_neg h116]
  by_cases h117 : c = 117
  · subst h117; rfl
  rw [if_neg h117]
  by_cases h118 : c = 118
  · subst h118; rfl
  rw [if_neg h118]
  have : facI c = -1 := by
    unfold facI
    rw [if_neg h110, if_neg h109, if_neg h118, if_neg h107, if_neg h97, if_neg h112, if_neg h116, if_neg h113]
  rw [this]; rfl
theorem facL_FC {i : Int} (i0 : 0 ≤ i) (i1 : i < 8) : FC 3 (ix (zI i)) = zI (facL i) := by
  rcases (show i = 0 ∨ i = 1 ∨ i = 2 ∨ i = 3 ∨ i = 4 ∨ i = 5 ∨ i = 6 ∨ i = 7 by omega) with rfl | rfl | rfl | rfl | rfl | rfl | rfl | rfl <;> decide
theorem facL_b (i : Int) : 97 ≤ facL i ∧ facL i < 119 := by
  unfold facL
  repeat' split
  all_goals decide
theorem letter_sp {q : Nat} (hq : isL q) {n : Int} {T : Int → Int} {pl s c : Int} {K : KK} {σ : Sg} (h : CL q n T pl s K σ) (c0 : -1 ≤ c) (c1 : c < 256) (s0 : 0 ≤ s) {d : Nat} {x2 : Value} : (facI c = -1 → f_LawReader_readFactor_76 (d + 1) q x2 (zI c) (zI 0) σ = rI (zI (-1000 - pl)) σ) ∧ (facI c ≠ -1 → s < 240 → ∃ σ', f_LawReader_readFactor_76 (d + 1) q x2 (zI c) (zI 0) σ = rI (zI 0) σ' ∧ Fr (SLw q) σ σ' ∧ CL q n T (pl + 1) (s + 1) (kPut K s 97 (facI c) (1048576 + facI c)) σ') := by
  have ne : q ≠ 5 := by rcases hq with rfl | rfl <;> decide
  have st : ∀ i : Int, 0 ≤ i → i < 8 → (facL i = c → f_LawReader_readFactor_76 (d + 1) q x2 (zI c) (zI i) σ = (cV (f_Law_emit (d + 1) q (zI 97) (zI i) (sI σ 5 4 (zI (pl + 1)))) fun σ2 => rI (zI 0) σ2)) ∧ (facL i ≠ c → f_LawReader_readFactor_76 (d + 1) q x2 (zI c) (zI i) σ = f_LawReader_readFactor_76 (d + 1) q x2 (zI c) (zI (i + 1)) σ) := fun i i0 i1 => by
    have b := facL_b i
    rw [f_LawReader_readFactor_76_eq, show Int32.ofNat 8 = zI 8 from zI_ofNat 8, ifLe (by omega) (by decide), if_pos i1, bnd_zI i0 (by omega) (by omega), facL_FC i0 i1, ifEq (by omega) (by omega)]
    refine ⟨fun z => ?_, fun z => ?_⟩
    · rw [if_pos z]
      dsimp only
      rw [h.1.nx, gdK_of hq.s0, show (97 : Int32) = zI 97 from zI_lit 97]; rfl
    · rw [if_neg z, show (1 : Int32) = zI 1 from zI_lit 1, zI_add]
  have fin : f_LawReader_readFactor_76 (d + 1) q x2 (zI c) (zI 8) σ = rI (zI (-1000 - pl)) σ := by
    rw [f_LawReader_readFactor_76_eq, show Int32.ofNat 8 = zI 8 from zI_ofNat 8, if_neg Int32.lt_irrefl, show (1 : Int32) = zI 1 from zI_lit 1, tfaultZ h.1.2, cI_rI]; rfl
  have hit : ∀ i : Int, facI c = i → s < 240 → ∃ σ', (cV (f_Law_emit (d + 1) q (zI 97) (zI i) (sI σ 5 4 (zI (pl + 1)))) fun σ2 => rI (zI 0) σ2) = rI (zI 0) σ' ∧ Fr (SLw q) σ σ' ∧ CL q n T (pl + 1) (s + 1) (kPut K s 97 (facI c) (1048576 + facI c)) σ'   := fun i e s1 => by
    subst e
    obtain ⟨σ', a1, a2, a3⟩ := emit_sp hq (h.up hq (pl + 1)) (show isCd 97 from Or.inr (Or.inl rfl)) s0 s1 (w := facI c) (m := 1048576 + facI c) (d := d)
    exact ⟨σ', by rw [a1, cV_rV], ((Fr.rf _ σ).sI _ (by simp [SLw])).tr a2, a3⟩
  by_cases g0 : c = 110
  · have e : facI c = 0 := by subst g0; decide
    refine ⟨fun z => by omega, fun _ s1 => ?_⟩
    obtain ⟨σ', a1, a2, a3⟩ := hit 0 e s1
    refine ⟨σ', ?_, a2, a3⟩
    exact ((st 0 (by decide) (by decide)).1 g0.symm).trans a1
  by_cases g1 : c = 109
  · have e : facI c = 1 := by subst g1; decide
    refine ⟨fun z => by omega, fun _ s1 => ?_⟩
    obtain ⟨σ', a1, a2, a3⟩ := hit 1 e s1
    refine ⟨σ', ?_, a2, a3⟩
    exact ((st 0 (by decide) (by decide)).2 (fun z => g0 z.symm)).trans (((st 1 (by decide) (by decide)).1 g1.symm).trans a1)
  by_cases g2 : c = 118
  · have e : facI c = 2 := by subst g2; decide
    refine ⟨fun z => by omega, fun _ s1 => ?_⟩
    obtain ⟨σ', a1, a2, a3⟩ := hit 2 e s1
    refine ⟨σ', ?_, a2, a3⟩
    exact ((st 0 (by decide) (by decide)).2 (fun z => g0 z.symm)).trans (((st 1 (by decide) (by decide)).2 (fun z => g1 z.symm)).trans (((st 2 (by decide) (by decide)).1 g2.symm).trans a1))
  by_cases g3 : c = 107
  · have e : facI c = 3 := by subst g3; decide
    refine ⟨fun z => by omega, fun _ s1 => ?_⟩
    obtain ⟨σ', a1, a2, a3⟩ := hit 3 e s1
    refine ⟨σ', ?_, a2, a3⟩
    exact ((st 0 (by decide) (by decide)).2 (fun z => g0 z.symm)).trans (((st 1 (by decide) (by decide)).2 (fun z => g1 z.symm)).trans (((st 2 (by decide) (by decide)).2 (fun z => g2 z.symm)).trans (((st 3 (by decide) (by decide)).1 g3.symm).trans a1)))
  by_cases g4 : c = 97
  · have e : facI c = 4 := by subst g4; decide
    refine ⟨fun z => by omega, fun _ s1 => ?_⟩
    obtain ⟨σ', a1, a2, a3⟩ := hit 4 e s1
    refine ⟨σ', ?_, a2, a3⟩
    exact ((st 0 (by decide) (by decide)).2 (fun z => g0 z.symm)).trans (((st 1 (by decide) (by decide)).2 (fun z => g1 z.symm)).trans (((st 2 (by decide) (by decide)).2 (fun z => g2 z.symm)).trans (((st 3 (by decide) (by decide)).2 (fun z => g3 z.symm)).trans (((st 4 (by decide) (by decide)).1 g4.symm).trans a1))))
  by_cases g5 : c = 112
  · have e : facI c = 5 := by subst g5; decide
    refine ⟨fun z => by omega, fun _ s1 => ?_⟩
    obtain ⟨σ', a1, a2, a3⟩ := hit 5 e s1
    refine ⟨σ', ?_, a2, a3⟩
    exact ((st 0 (by decide) (by decide)).2 (fun z => g0 z.symm)).trans (((st 1 (by decide) (by decide)).2 (fun z => g1 z.symm)).trans (((st 2 (by decide) (by decide)).2 (fun z => g2 z.symm)).trans (((st 3 (by decide) (by decide)).2 (fun z => g3 z.symm)).trans (((st 4 (by decide) (by decide)).2 (fun z => g4 z.symm)).trans (((st 5 (by decide) (by decide)).1 g5.symm).trans a1)))))
  by_cases g6 : c = 116
  · have e : facI c = 6 := by subst g6; decide
    refine ⟨fun z => by omega, fun _ s1 => ?_⟩
    obtain ⟨σ', a1, a2, a3⟩ := hit 6 e s1
    refine ⟨σ', ?_, a2, a3⟩
    exact ((st 0 (by decide) (by decide)).2 (fun z => g0 z.symm)).trans (((st 1 (by decide) (by decide)).2 (fun z => g1 z.symm)).trans (((st 2 (by decide) (by decide)).2 (fun z => g2 z.symm)).trans (((st 3 (by decide) (by decide)).2 (fun z => g3 z.symm)).trans (((st 4 (by decide) (by decide)).2 (fun z => g4 z.symm)).trans (((st 5 (by decide) (by decide)).2 (fun z => g5 z.symm)).trans (((st 6 (by decide) (by decide)).1 g6.symm).trans a1))))))
  by_cases g7 : c = 113
  · have e : facI c = 7 := by subst g7; decide
    refine ⟨fun z => by omega, fun _ s1 => ?_⟩
    obtain ⟨σ', a1, a2, a3⟩ := hit 7 e s1
    refine ⟨σ', ?_, a2, a3⟩
    exact ((st 0 (by decide) (by decide)).2 (fun z => g0 z.symm)).trans (((st 1 (by decide) (by decide)).2 (fun z => g1 z.symm)).trans (((st 2 (by decide) (by decide)).2 (fun z => g2 z.symm)).trans (((st 3 (by decide) (by decide)).2 (fun z => g3 z.symm)).trans (((st 4 (by decide) (by decide)).2 (fun z => g4 z.symm)).trans (((st 5 (by decide) (by decide)).2 (fun z => g5 z.symm)).trans (((st 6 (by decide) (by decide)).2 (fun z => g6 z.symm)).trans (((st 7 (by decide) (by decide)).1 g7.symm).trans a1)))))))
  have e : facI c = -1 := by
    unfold facI
    rw [if_neg g0, if_neg g1, if_neg g2, if_neg g3, if_neg g4, if_neg g5, if_neg g6, if_neg g7]
  refine ⟨fun _ => ?_, fun z _ => absurd e z⟩
  exact ((st 0 (by decide) (by decide)).2 (fun z => g0 z.symm)).trans (((st 1 (by decide) (by decide)).2 (fun z => g1 z.symm)).trans (((st 2 (by decide) (by decide)).2 (fun z => g2 z.symm)).trans (((st 3 (by decide) (by decide)).2 (fun z => g3 z.symm)).trans (((st 4 (by decide) (by decide)).2 (fun z => g4 z.symm)).trans (((st 5 (by decide) (by decide)).2 (fun z => g5 z.symm)).trans (((st 6 (by decide) (by decide)).2 (fun z => g6 z.symm)).trans (((st 7 (by decide) (by decide)).2 (fun z => g7 z.symm)).trans (fin))))))))
theorem numL {q : Nat} (hq : isL q) {n f s : Int} {T : Int → Int} {K : KK} (hx : TX n T) (n240 : n ≤ 240) (f0 : 0 ≤ f) (s0 : 0 ≤ s) (s1 : s < 240) (hd : 48 ≤ chA n T f ∧ chA n T f ≤ 57) : ∀ (b : Nat) (i u : Int), i + b = 5 → 0 ≤ i → f + i ≤ n → 0 ≤ u → (i = 0 ∧ u = 0 ∨ i = 1 ∧ u ≤ 9 ∨ i = 2 ∧ u ≤ 99 ∨ i = 3 ∧ u ≤ 999 ∨ i = 4 ∧ u ≤ 9999 ∨ i = 5 ∧ u ≤ 99999) → ∃ v u' pl' : Int, -10000 < v ∧ v ≤ 0 ∧ (v = 0 → 0 ≤ u' ∧ u' ≤ 99999 ∧ f < pl' ∧ pl' ≤ n) ∧
    (∀ (d : Nat) σ, CL q n T (f + i) s K σ → ∃ σ', f_LawReader_readNumber_4 (d + 2) q (zI u) (zI i) σ = rI (zI v) σ' ∧ Fr (SLw q) σ σ' ∧ (v < 0 → σ'.1 q 5 = zI s) ∧ (v = 0 → CL q n T pl' (s + 1) (kPut K s 35 u' u') σ')) ∧
    (∀ (d2 : Nat) τ o wt Wt, ML n T (f + i) o s K wt Wt τ → τ.1 102 11 = zI u → ∃ τ', f_M_readsNumber_10 (d2 + 3) (zI f) τ = rI (bz (decide (v = 0))) τ' ∧ Fr SLm τ τ' ∧ (v < 0 → τ'.1 102 10 = zI v) ∧ (v = 0 → ML n T pl' o s K wt Wt τ' ∧ τ'.1 102 11 = zI u')) := by
  have n260 := hx.2.1
  have cs : ∀ (d : Nat) (σ : Sg) (i u : Int), 0 ≤ i → i ≤ 5 → f + i ≤ n → 0 ≤ u → u ≤ 99999 → CL q n T (f + i) s K σ → f_LawReader_readNumber_4 (d + 2) q (zI u) (zI i) σ = if 48 ≤ chA n T (f + i) ∧ chA n T (f + i) ≤ 57 then (if i = 5 then rI (zI (-2000 - (f + i))) σ else f_LawReader_readNumber_4 (d + 2) q (zI (10 * u + chA n T (f + i) - 48)) (zI (i + 1)) (sI σ 5 4 (zI (f + i + 1)))) else (cV (f_Law_emit (d + 2) q (zI 35) (zI u) σ) fun σ6 => rI (zI 0) σ6) := fun d σ i u i0 i5 p1 u0 u9 h => by
    obtain ⟨c0, c1, -⟩ := hx.ch (show 0 ≤ f + i by omega)
    rw [f_LawReader_readNumber_4_eq, show (5 : Int32) = zI 5 from zI_lit 5, if_neg (by rw [zI_le (by decide) (by omega)]; omega), h.1.now hx (by omega) p1, cI_rI, isDig_sp c0 c1, cI_rI, ifBz]
    by_cases z : 48 ≤ chA n T (f + i) ∧ chA n T (f + i) ≤ 57
    · rw [if_pos z, if_pos z, ifEq (by omega) (by decide)]
      by_cases z5 : i = 5
      · rw [if_pos z5, if_pos z5, show (2 : Int32) = zI 2 from zI_lit 2, tfaultZ h.1.2, cI_rI]; rfl
      · rw [if_neg z5, if_neg z5, h.1.now hx (by omega) p1, cI_rI]
        dsimp only
        rw [h.1.nx, show (10 : Int32) = zI 10 from zI_lit 10, zI_mul, zI_add, show (48 : Int32) = zI 48 from zI_lit 48, zI_sub, show (1 : Int32) = zI 1 from zI_lit 1, zI_add]
    · rw [if_neg z, if_neg z, gdK_of hq.s0, show (35 : Int32) = zI 35 from zI_lit 35]; rfl
  have ms : ∀ (d2 : Nat) (τ : Sg) (i u : Int), 0 ≤ i → i ≤ 5 → f + i ≤ n → 0 ≤ u → u ≤ 99999 → MP n T (f + i) τ → τ.1 102 11 = zI u → f_M_readsNumber_10 (d2 + 3) (zI f) τ = if 48 ≤ chA n T (f + i) ∧ chA n T (f + i) ≤ 57 then (if i = 5 then rI (zI 0) (sI τ 102 10 (zI (-2000 - (f + i)))) else f_M_readsNumber_10 (d2 + 3) (zI f) (sI (sI τ 102 11 (zI (10 * u + chA n T (f + i) - 48))) 102 8 (zI (f + i + 1)))) else rI (zI 1) τ := fun d2 τ i u i0 i5 p1 u0 u9 h eu => by
    obtain ⟨c0, c1, -⟩ := hx.ch (show 0 ≤ f + i by omega)
    rw [f_M_readsNumber_10_eq, h.dig hx (by omega) p1, cI_rI, ifBz]
    by_cases z : 48 ≤ chA n T (f + i) ∧ chA n T (f + i) ≤ 57
    · rw [if_pos z, if_pos z, h.2.1, show (5 : Int32) = zI 5 from zI_lit 5, zI_add, ifEq (by omega) (by omega)]
      by_cases z5 : i = 5
      · rw [if_pos z5, if_pos (by omega), show (2 : Int32) = zI 2 from zI_lit 2, wrongAt_sp, cI_rI, rZ_z0]; rfl
      · rw [if_neg z5, if_neg (by omega), h.here hx (by omega) p1, cI_rI]
        dsimp only
        rw [sI_slot _ _ _ _ (by decide), h.nx, eu, show (10 : Int32) = zI 10 from zI_lit 10, zI_mul, zI_add, show (48 : Int32) = zI 48 from zI_lit 48, zI_sub]
    · rw [if_neg z, if_neg z]; rfl
  have non : ∀ i u : Int, 1 ≤ i → i ≤ 5 → f + i ≤ n → 0 ≤ u → u ≤ 99999 → ¬ (48 ≤ chA n T (f + i) ∧ chA n T (f + i) ≤ 57) → ∃ v u' pl' : Int, -10000 < v ∧ v ≤ 0 ∧ (v = 0 → 0 ≤ u' ∧ u' ≤ 99999 ∧ f < pl' ∧ pl' ≤ n) ∧
    (∀ (d : Nat) σ, CL q n T (f + i) s K σ → ∃ σ', f_LawReader_readNumber_4 (d + 2) q (zI u) (zI i) σ = rI (zI v) σ' ∧ Fr (SLw q) σ σ' ∧ (v < 0 → σ'.1 q 5 = zI s) ∧ (v = 0 → CL q n T pl' (s + 1) (kPut K s 35 u' u') σ')) ∧
    (∀ (d2 : Nat) τ o wt Wt, ML n T (f + i) o s K wt Wt τ → τ.1 102 11 = zI u → ∃ τ', f_M_readsNumber_10 (d2 + 3) (zI f) τ = rI (bz (decide (v = 0))) τ' ∧ Fr SLm τ τ' ∧ (v < 0 → τ'.1 102 10 = zI v) ∧ (v = 0 → ML n T pl' o s K wt Wt τ' ∧ τ'.1 102 11 = zI u')) := by
    intro i u i1 i5 p1 u0 u9 z
    refine ⟨0, u, f + i, by decide, by decide, fun _ => ⟨u0, u9, by omega, p1⟩, fun d σ h => ?_, fun d2 τ o wt Wt h eu => ⟨τ, ?_, Fr.rf _ _, fun y => by omega, fun _ => ⟨h, eu⟩⟩⟩
    · obtain ⟨σ', a1, a2, a3⟩ := emit_sp hq h (show isCd 35 from Or.inl rfl) s0 s1 (w := u) (m := u) (d := d + 1)
      have a1 : f_Law_emit (d + 2) q (zI 35) (zI u) σ = rV σ' := a1
      exact ⟨σ', by rw [cs d σ i u (by omega) i5 p1 u0 u9 h, if_neg z, a1, cV_rV], a2, fun y => by omega, fun _ => a3⟩
    · rw [ms d2 τ i u (by omega) i5 p1 u0 u9 h.1 eu, if_neg z, bzz]
  intro b
  induction b with
  | zero =>
    intro i u hi i0 p1 u0 ub
    have : i = 5 := by omega
    subst this
    by_cases z : 48 ≤ chA n T (f + 5) ∧ chA n T (f + 5) ≤ 57
    · refine ⟨-2000 - (f + 5), 0, 0, by omega, by omega, fun y => by omega, fun d σ h => ⟨σ, ?_, Fr.rf _ _, fun _ => h.2.1, fun y => by omega⟩, fun d2 τ o wt Wt h eu => ⟨_, ?_, (Fr.rf _ τ).sI (a := 102) (k := 10) (zI (-2000 - (f + 5))) rfl, fun _ => sI_same _ _ _ _, fun y => by omega⟩⟩
      · rw [cs d σ 5 u (by omega) (by omega) p1 u0 (by omega) h, if_pos z, if_pos rfl]
      · rw [ms d2 τ 5 u (by omega) (by omega) p1 u0 (by omega) h.1 eu, if_pos z, if_pos rfl, bzn (by omega)]
    · exact non 5 u (by omega) (by omega) p1 u0 (by omega) z
  | succ b ih =>
    intro i u hi i0 p1 u0 ub
    by_cases z : 48 ≤ chA n T (f + i) ∧ chA n T (f + i) ≤ 57
    · have p2 := (hx.ch (show 0 ≤ f + i by omega)).2.2 (by omega)
      obtain ⟨v, u', pl', b1, b2, b3, hN, hM⟩ := ih (i + 1) (10 * u + chA n T (f + i) - 48) (by omega) (by omega) (by omega) (by omega) (by omega)
      have pe : f + (i + 1) = f + i + 1 := by omega
      rw [pe] at hN hM
      refine ⟨v, u', pl', b1, b2, b3, fun d σ h => ?_, fun d2 τ o wt Wt h eu => ?_⟩
      · obtain ⟨σ', a1, a2, a3⟩ := hN d _ (h.up hq (f + i + 1))
        refine ⟨σ', ?_, ((Fr.rf _ σ).sI _ (by simp [SLw])).tr a2, a3⟩
        rw [cs d σ i u (by omega) (by omega) p1 u0 (by omega) h, if_pos z, if_neg (by omega)]
        exact a1
      · have g : ML n T (f + i + 1) o s K wt Wt (sI (sI τ 102 11 (zI (10 * u + chA n T (f + i) - 48))) 102 8 (zI (f + i + 1))) := ML.up (pl := f + i) ⟨h.1.fr (S := SLm) ((Fr.rf _ τ).sI _ rfl) rfl (fun _ => rfl) ((sI_slot _ _ _ _ (by decide)).trans h.1.2.1), (sI_slot _ _ _ _ (by decide)).trans h.2.1, (sI_slot _ _ _ _ (by decide)).trans h.2.2.1, (sI_slot _ _ _ _ (by decide)).trans h.2.2.2.1, fun j j0 j1 => (sI_row _ _ _ _ _ (by decide)).trans (h.2.2.2.2.1 j j0 j1), fun j j0 j1 => (sI_row _ _ _ _ _ (by decide)).trans (h.2.2.2.2.2 j j0 j1)⟩ (f + i + 1)
        obtain ⟨τ', a1, a2, a3⟩ := hM d2 _ o wt Wt g ((sI_slot _ _ _ _ (by decide)).trans (sI_same _ _ _ _))
        refine ⟨τ', ?_, (((Fr.rf _ τ).sI _ rfl).sI _ rfl).tr a2, a3⟩
        rw [ms d2 τ i u (by omega) (by omega) p1 u0 (by omega) h.1 eu, if_pos z, if_neg (by omega)]
        exact a1
    · have i1 : 1 ≤ i := by
        by_cases y : i = 0
        · subst y; rw [Int.add_zero] at z; exact absurd hd z
        · omega
      exact non i u i1 (by omega) p1 u0 (by omega) z
