/-! law: sums that wait -/
theorem cs0_eq (d : Nat) (a : Int32) (σ : Sg) : f_M_closesSums (d + 1) a σ = f_M_closesSums_0 d a σ := (f_M_closesSums_eq d a σ).trans (f_M_closesSums_0_eq d a σ).symm
theorem cs_step {n : Int} {T : Int → Int} {pl o s wt a : Int} {K : KK} {Wt : Int → Int} {τ : Sg} (h : ML n T pl o s K wt Wt τ) (hb : BW wt Wt) (w0 : 0 ≤ wt) (w1 : wt ≤ 260) (ha : a = 0 ∨ a = 1) {d : Nat} : ((4 ≤ wtop wt Wt ∧ wtop wt Wt ≤ 6) ∨ a = 1 ∧ (wtop wt Wt = 2 ∨ wtop wt Wt = 3) → f_M_closesSums_0 (d + 2) (zI a) τ = (cV (f_M_notes (d + 2) (zI (wtop wt Wt)) (zI 0) τ) fun σ7 => f_M_closesSums_0 (d + 2) (zI a) (sI σ7 102 14 ((σ7.1 102 14) - 1)))) ∧ (¬ ((4 ≤ wtop wt Wt ∧ wtop wt Wt ≤ 6) ∨ a = 1 ∧ (wtop wt Wt = 2 ∨ wtop wt Wt = 3)) → f_M_closesSums_0 (d + 2) (zI a) τ = rV τ) := by
  have W := waitTop_sp h hb w0 w1 (d := d + 1)
  have W : f_M_waitTop (d + 2) τ = rI (zI (wtop wt Wt)) τ := W
  obtain ⟨b0, b1⟩ := wtop_b hb w0
  generalize wtop wt Wt = t at W b0 b1
  have st : f_M_closesSums_0 (d + 2) (zI a) τ = if (4 ≤ t ∧ t ≤ 6) ∨ a = 1 ∧ (t = 2 ∨ t = 3) then (cV (f_M_notes (d + 2) (zI t) (zI 0) τ) fun σ7 => f_M_closesSums_0 (d + 2) (zI a) (sI σ7 102 14 ((σ7.1 102 14) - 1))) else rV τ := by
    rw [f_M_closesSums_0_eq, W, cI_rI, show (4 : Int32) = zI 4 from zI_lit 4, ifLe (by omega) (by decide)]
    by_cases z : t < 4
    · rw [if_pos z, ifE0 (by omega)]
      by_cases za : a = 0
      · rw [if_pos za, if_neg (by omega)]
      · rw [if_neg za, W, cI_rI, show (2 : Int32) = zI 2 from zI_lit 2, ifEq (by omega) (by decide)]
        by_cases z2 : t = 2
        · rw [if_pos z2, W, cI_rI, if_pos (by omega), zI_0]
        · rw [if_neg z2, W, cI_rI, show (3 : Int32) = zI 3 from zI_lit 3, ifEq (by omega) (by decide)]
          by_cases z3 : t = 3
          · rw [if_pos z3, W, cI_rI, if_pos (by omega), zI_0]
          · rw [if_neg z3, if_neg (by omega)]
    · rw [if_neg z, W, cI_rI, show (6 : Int32) = zI 6 from zI_lit 6, ifLe (by decide) (by omega)]
      by_cases z6 : 6 < t
      · rw [if_pos z6, ifE0 (by omega)]
        by_cases za : a = 0
        · rw [if_pos za, if_neg (by omega)]
        · rw [if_neg za, W, cI_rI, show (2 : Int32) = zI 2 from zI_lit 2, ifEq (by omega) (by decide), if_neg (by omega), W, cI_rI, show (3 : Int32) = zI 3 from zI_lit 3, ifEq (by omega) (by decide), if_neg (by omega), if_neg (by omega)]
      · rw [if_neg z6, W, cI_rI, if_pos (by omega), zI_0]
  exact ⟨fun z => by rw [st, if_pos z], fun z => by rw [st, if_neg z]⟩
theorem close1 {n : Int} {T : Int → Int} {pl o s wt a x : Int} {K : KK} {Wt : Int → Int} {τ : Sg} (h : ML n T pl o s K (wt + 1) (mup Wt wt (1048576 * x)) τ) (hb : BW wt Wt) (w0 : 0 ≤ wt) (w1 : wt < 260) (s0 : 0 ≤ s) (s1 : s < 260) (ha : a = 0 ∨ a = 1) (hx : 2 ≤ x ∧ x ≤ 6) (hxa : 4 ≤ x ∨ a = 1) (e : K.2.2 s = 1048576 * x) {d : Nat} : ∃ τ', f_M_closesSums_0 (d + 2) (zI a) τ = f_M_closesSums_0 (d + 2) (zI a) τ' ∧ Fr SLm τ τ' ∧ ML n T pl o (s + 1) K wt Wt τ' := by
  have t : wtop (wt + 1) (mup Wt wt (1048576 * x)) = x := by rw [wtop_up w0]; omega
  have c := (cs_step h (hb.up (by omega) (by omega)) (by omega) (by omega) ha (d := d)).1 (by rw [t]; omega)
  rw [t] at c
  obtain ⟨τ1, a1, a2, a3, -⟩ := notes_sp (op := x) (v := 0) (c := 0) (w := 0) h s0 s1 (d := d + 1)
  have a1 : f_M_notes (d + 2) (zI x) (zI 0) τ = rV τ1 := a1
  have g : ML n T pl o (s + 1) K (wt + 1) (mup Wt wt (1048576 * x)) τ1 := a3.cg (fun j j0 j1 => by
    unfold kPut
    dsimp only
    by_cases z : j = s
    · subst z; rw [mup_same, e]; omega
    · rw [mup_ne z]) fun _ _ _ => rfl
  refine ⟨sI τ1 102 14 (zI wt), ?_, a2.sI _ rfl, pop_ML g⟩
  rw [c, a1, cV_rV, a3.2.2.2.1, show (1 : Int32) = zI 1 from zI_lit 1, zI_sub, show wt + 1 - 1 = wt by omega]
def LzT (n : Int) (T : Int → Int) (pl o s : Int) (K : KK) (wt : Int) (Wt : Int → Int) (τ : Sg) : Prop := ML n T pl o s K wt Wt τ ∨ ∃ x, 4 ≤ x ∧ x ≤ 6 ∧ 1 ≤ s ∧ K.2.2 (s - 1) = 1048576 * x ∧ ML n T pl o (s - 1) K (wt + 1) (mup Wt wt (1048576 * x)) τ
def LzS (n : Int) (T : Int → Int) (pl o s : Int) (K : KK) (wt : Int) (Wt : Int → Int) (τ : Sg) : Prop := LzT n T pl o s K wt Wt τ ∨ ∃ y, 2 ≤ y ∧ y ≤ 3 ∧ 1 ≤ s ∧ K.2.2 (s - 1) = 1048576 * y ∧ LzT n T pl o (s - 1) K (wt + 1) (mup Wt wt (1048576 * y)) τ
theorem closeT {n : Int} {T : Int → Int} {pl o s wt a : Int} {K : KK} {Wt : Int → Int} {τ : Sg} (h : LzT n T pl o s K wt Wt τ) (hb : BW wt Wt) (w0 : 0 ≤ wt) (w1 : wt < 260) (s1 : s ≤ 260) (ha : a = 0 ∨ a = 1) {d : Nat} : ∃ τ', f_M_closesSums_0 (d + 2) (zI a) τ = f_M_closesSums_0 (d + 2) (zI a) τ' ∧ Fr SLm τ τ' ∧ ML n T pl o s K wt Wt τ' := by
  rcases h with h | ⟨x, x0, x1, s0, e, h⟩
  · exact ⟨τ, rfl, Fr.rf _ _, h⟩
  · obtain ⟨τ', a1, a2, a3⟩ := close1 h hb w0 w1 (by omega) (by omega) ha (by omega) (Or.inl x0) e (d := d)
    rw [show s - 1 + 1 = s by omega] at a3
    exact ⟨τ', a1, a2, a3⟩
theorem closeT_top {n : Int} {T : Int → Int} {pl o s wt : Int} {K : KK} {Wt : Int → Int} {τ : Sg} (h : LzT n T pl o s K wt Wt τ) (hb : BW wt Wt) (w0 : 0 ≤ wt) (w1 : wt < 260) (s1 : s ≤ 260) (ht : ¬ (4 ≤ wtop wt Wt ∧ wtop wt Wt ≤ 6)) {d : Nat} : ∃ τ', f_M_closesSums (d + 3) (zI 0) τ = rV τ' ∧ Fr SLm τ τ' ∧ ML n T pl o s K wt Wt τ' := by
  obtain ⟨τ', a1, a2, a3⟩ := closeT h hb w0 w1 s1 (Or.inl rfl) (d := d)
  refine ⟨τ', ?_, a2, a3⟩
  rw [cs0_eq, a1]
  exact (cs_step a3 hb w0 (by omega) (Or.inl rfl)).2 (by omega)
theorem closeS_all {n : Int} {T : Int → Int} {pl o s wt : Int} {K : KK} {Wt : Int → Int} {τ : Sg} (h : LzS n T pl o s K wt Wt τ) (hb : BW wt Wt) (w0 : 0 ≤ wt) (w1 : wt + 1 < 260) (s1 : s ≤ 260) (ht : ¬ (2 ≤ wtop wt Wt ∧ wtop wt Wt ≤ 6)) {d : Nat} : ∃ τ', f_M_closesSums (d + 3) (zI 1) τ = rV τ' ∧ Fr SLm τ τ' ∧ ML n T pl o s K wt Wt τ' := by
  have fin : ∀ τ', ML n T pl o s K wt Wt τ' → f_M_closesSums_0 (d + 2) (zI 1) τ' = rV τ' := fun τ' g => (cs_step g hb w0 (by omega) (Or.inr rfl)).2 (by omega)
  rcases h with h | ⟨y, y0, y1, s0, e, h⟩
  · obtain ⟨τ', a1, a2, a3⟩ := closeT h hb w0 (by omega) s1 (Or.inr rfl) (d := d)
    exact ⟨τ', by rw [cs0_eq, a1, fin τ' a3], a2, a3⟩
  · obtain ⟨τ1, a1, a2, a3⟩ := closeT h (hb.up (by omega) (by omega)) (by omega) w1 (by omega) (Or.inr rfl) (d := d)
    obtain ⟨τ2, b1, b2, b3⟩ := close1 a3 hb w0 (by omega) (by omega) (by omega) (Or.inr rfl) (by omega) (Or.inr rfl) e (d := d)
    rw [show s - 1 + 1 = s by omega] at b3
    exact ⟨τ2, by rw [cs0_eq, a1, b1, fin τ2 b3], a2.tr b2, b3⟩
theorem LzS.ml {n : Int} {T : Int → Int} {pl o s wt : Int} {K : KK} {Wt : Int → Int} {τ : Sg} (h : LzS n T pl o s K wt Wt τ) (hb : BW wt Wt) (w0 : 0 ≤ wt) : ∃ s2 wt2 Wt2, ML n T pl o s2 K wt2 Wt2 τ ∧ wt ≤ wt2 ∧ wt2 ≤ wt + 2 ∧ BW wt2 Wt2 ∧ (∀ j, j < wt → Wt2 j = Wt j) ∧ ∀ j, wt ≤ j → j < wt2 → Wt2 j / 1048576 ≠ 14 := by
  have one : ∀ (s wt : Int) (Wt : Int → Int), 0 ≤ wt → BW wt Wt → LzT n T pl o s K wt Wt τ → ∃ s2 wt2 Wt2, ML n T pl o s2 K wt2 Wt2 τ ∧ wt ≤ wt2 ∧ wt2 ≤ wt + 1 ∧ BW wt2 Wt2 ∧ (∀ j, j < wt → Wt2 j = Wt j) ∧ ∀ j, wt ≤ j → j < wt2 → Wt2 j / 1048576 ≠ 14 := by
    intro s wt Wt w0 hb h
    rcases h with h | ⟨x, x0, x1, s0, e, h⟩
    · exact ⟨s, wt, Wt, h, by omega, by omega, hb, fun _ _ => rfl, fun j j0 j1 => by omega⟩
    · refine ⟨s - 1, wt + 1, _, h, by omega, by omega, hb.up (by omega) (by omega), fun j j1 => mup_ne (by omega), fun j j0 j1 => ?_⟩
      have : j = wt := by omega
      subst this
      rw [mup_same]; omega
  rcases h with h | ⟨y, y0, y1, s0, e, h⟩
  · obtain ⟨s2, wt2, Wt2, a1, a2, a3, a4, a5, a6⟩ := one s wt Wt w0 hb h
    exact ⟨s2, wt2, Wt2, a1, a2, by omega, a4, a5, a6⟩
  · obtain ⟨s2, wt2, Wt2, a1, a2, a3, a4, a5, a6⟩ := one (s - 1) (wt + 1) _ (by omega) (hb.up (by omega) (by omega)) h
    refine ⟨s2, wt2, Wt2, a1, by omega, by omega, a4, fun j j1 => by rw [a5 j (by omega), mup_ne (by omega)], fun j j0 j1 => ?_⟩
    by_cases z : j = wt
    · subst z; rw [a5 j (by omega), mup_same]; omega
    · exact a6 j (by omega) j1
theorem hos_sp {n : Int} {T : Int → Int} {pl o s wt : Int} {K : KK} {Wt : Int → Int} {τ : Sg} (h : ML n T pl o s K wt Wt τ) (hb : BW wt Wt) (w1 : wt ≤ 260) {base : Int} (b0 : 0 ≤ base) (b1 : base ≤ wt) {d : Nat} : ((∃ j, base ≤ j ∧ j < wt ∧ Wt j / 1048576 = 14) → f_M_hasOpenSum (d + 1) (zI base) τ = rI (zI 1) τ) ∧ ((∀ j, base ≤ j → j < wt → Wt j / 1048576 ≠ 14) → f_M_hasOpenSum (d + 1) (zI base) τ = rI (zI 0) τ) := by
  have st : ∀ (i : Int) (x : Value), 0 ≤ i → i < wt → f_M_hasOpenSum_2 d x (zI i) τ = if Wt i / 1048576 = 14 then rI (zI 1) τ else f_M_hasOpenSum_2 d (nlg x) (zI (i + 1)) τ := fun i x i0 i1 => by
    have b := hb i i0 i1
    rw [f_M_hasOpenSum_2_eq, h.2.2.2.1, ifLe (by omega) (by omega), if_pos i1, bnd_zI i0 (by omega) (by omega), ix_zI i0 (by omega), h.2.2.2.2.2 i i0 i1, show (1048576 : Int32) = zI 1048576 from zI_lit 1048576, dvI_nn b.1 (by omega) (by decide) (by decide), show (14 : Int32) = zI 14 from zI_lit 14, ifEq (by omega) (by decide), show (1 : Int32) = zI 1 from zI_lit 1, zI_add]
    rfl
  have main : ∀ (b : Nat) (i : Int) (x : Value), i + b = wt → 0 ≤ i → ((∃ j, i ≤ j ∧ j < wt ∧ Wt j / 1048576 = 14) → f_M_hasOpenSum_2 d x (zI i) τ = rI (zI 1) τ) ∧ ((∀ j, i ≤ j → j < wt → Wt j / 1048576 ≠ 14) → f_M_hasOpenSum_2 d x (zI i) τ = rI (zI 0) τ) := by
    intro b
    induction b with
    | zero =>
      intro i x hi i0
      have : i = wt := by omega
      subst this
      refine ⟨fun ⟨j, j0, j1, _⟩ => by omega, fun _ => ?_⟩
      rw [f_M_hasOpenSum_2_eq, h.2.2.2.1, if_neg Int32.lt_irrefl]; rfl
    | succ b ih =>
      intro i x hi i0
      have i1 : i < wt := by omega
      obtain ⟨e1, e2⟩ := ih (i + 1) (nlg x) (by omega) (by omega)
      rw [st i x i0 i1]
      by_cases z : Wt i / 1048576 = 14
      · rw [if_pos z]
        exact ⟨fun _ => rfl, fun g => absurd z (g i (Int.le_refl _) i1)⟩
      · rw [if_neg z]
        refine ⟨fun ⟨j, j0, j1, e⟩ => e1 ⟨j, ?_, j1, e⟩, fun g => e2 fun j j0 j1 => g j (by omega) j1⟩
        by_cases y : j = i
        · subst y; exact absurd e z
        · omega
  have := main (wt - base).toNat base (.int (zI base)) (by omega) b0
  rw [f_M_hasOpenSum_eq]
  exact this
/-! the loop of a sum -/
def lsgn (c : Int) : Int := if c = 43 then 2 else if c = 45 then 3 else if c = 42 then 4 else if c = 47 then 5 else if c = 37 then 6 else -1
theorem lsgn_b (c : Int) : -1 ≤ lsgn c ∧ lsgn c ≤ 6 ∧ lsgn c ≠ 0 ∧ lsgn c ≠ 1 := by
  unfold lsgn
  repeat' split
  all_goals decide
theorem sumSign_sp {c : Int} (c0 : -1 ≤ c) (c1 : c < 256) {d : Nat} {σ : Sg} : f_M_sumSign (d + 1) (zI c) σ = rI (zI (lsgn c)) σ := by
  rw [f_M_sumSign_eq, show (43 : Int32) = zI 43 from zI_lit 43, ifEq (by omega) (by decide), show (45 : Int32) = zI 45 from zI_lit 45, ifEq (by omega) (by decide), show (42 : Int32) = zI 42 from zI_lit 42, ifEq (by omega) (by decide), show (47 : Int32) = zI 47 from zI_lit 47, ifEq (by omega) (by decide), show (37 : Int32) = zI 37 from zI_lit 37, ifEq (by omega) (by decide)]
  unfold lsgn
  by_cases h1 : c = 43
  · rw [if_pos h1, if_pos h1]; rfl
  rw [if_neg h1, if_neg h1]
  by_cases h2 : c = 45
  · rw [if_pos h2, if_pos h2]; rfl
  rw [if_neg h2, if_neg h2]
  by_cases h3 : c = 42
  · rw [if_pos h3, if_pos h3]; rfl
  rw [if_neg h3, if_neg h3]
  by_cases h4 : c = 47
  · rw [if_pos h4, if_pos h4]; rfl
  rw [if_neg h4, if_neg h4]
  by_cases h5 : c = 37
  · rw [if_pos h5, if_pos h5]; rfl
  rw [if_neg h5, if_neg h5]; rfl
noncomputable def lawS (d : Nat) (base : Int) (τ : Sg) : Rs := f_M_readsSum_14 (d + 6) (zI base) .null τ
theorem lawS_any (d : Nat) (base : Int) (x : Value) (τ : Sg) : f_M_readsSum_14 (d + 6) (zI base) x τ = lawS d base τ := (f_M_readsSum_14_eq (d + 6) (zI base) x τ).trans (f_M_readsSum_14_eq (d + 6) (zI base) .null τ).symm
noncomputable def lawF (d : Nat) (base : Int) (τ : Sg) : Rs := cI (f_M_readsFactor (d + 6) τ) fun b τ => if b = 0 then rZ 0 τ else lawS d base τ
theorem lawS_sgn {n : Int} {T : Int → Int} {pl o s wt base : Int} {K : KK} {Wt : Int → Int} {τ τ1 : Sg} {d : Nat} (hx : TX n T) (p0 : 0 ≤ pl) (p1 : pl ≤ n) (hm : MP n T pl τ) (hs : lsgn (chA n T pl) ≠ -1) (hc : f_M_closesSums (d + 6) (zI (if lsgn (chA n T pl) < 4 then 1 else 0)) τ = rV τ1) (h : ML n T pl o s K wt Wt τ1) (w0 : 0 ≤ wt) (w1 : wt < 260) : ∃ τ2, lawS d base τ = lawF d base τ2 ∧ Fr SLm τ1 τ2 ∧ ML n T (pl + 1) o s K (wt + 1) (mup Wt wt (1048576 * lsgn (chA n T pl))) τ2 := by
  obtain ⟨c0, c1, -⟩ := hx.ch p0
  obtain ⟨g0, g1, -, -⟩ := lsgn_b (chA n T pl)
  have fin : ∀ v4 : Int32, v4 = zI (lsgn (chA n T pl)) → ∀ y : Value, (bnd (τ1.1 102 14) 260 (let σ24 := sI τ1 110 (ix (τ1.1 102 14)) (1048576 * v4); let σ25 := sI σ24 102 14 ((σ24.1 102 14) + 1); let σ26 := sI σ25 102 8 ((σ25.1 102 8) + 1); cI (f_M_readsFactor (d + 6) σ26) fun v28 σ27 => if v28 = 0 then (rZ 0 σ27) else (f_M_readsSum_14 (d + 6) (zI base) y σ27))) = lawF d base (sI (sI (sI τ1 110 wt.toNat (zI (1048576 * lsgn (chA n T pl)))) 102 14 (zI (wt + 1))) 102 8 (zI (pl + 1))) := fun v4 e y => by
    subst e
    rw [h.2.2.2.1, bnd_zI w0 (by omega) (by omega), ix_zI w0 (by omega), show (1048576 : Int32) = zI 1048576 from zI_lit 1048576, zI_mul]
    dsimp only
    rw [sI_row _ _ _ _ _ (show (102 : Nat) ≠ 110 by decide), h.2.2.2.1, sI_slot _ _ _ _ (show (8 : Nat) ≠ 14 by decide), sI_row _ _ _ _ _ (show (102 : Nat) ≠ 110 by decide), h.1.2.1, show (1 : Int32) = zI 1 from zI_lit 1, zI_add, zI_add]
    unfold lawF
    simp only [lawS_any]
  refine ⟨_, ?_, (((Fr.rf _ τ1).sI _ rfl).sI _ rfl).sI _ rfl, (push_ML h).up (pl + 1)⟩
  unfold lawS
  rw [f_M_readsSum_14_eq, hm.here hx p0 p1, cI_rI, sumSign_sp c0 c1, cI_rI, show (-1 : Int32) = zI (-1) from rfl, ifEq (by omega) (by decide), if_neg hs, show (4 : Int32) = zI 4 from zI_lit 4, ifLe (by omega) (by decide)]
  by_cases z : lsgn (chA n T pl) < 4
  · rw [if_pos z] at hc ⊢
    rw [show (1 : Int32) = zI 1 from zI_lit 1, hc, cV_rV, ← show (1 : Int32) = zI 1 from zI_lit 1]
    exact fin _ rfl _
  · rw [if_neg z] at hc ⊢
    rw [zI_0, hc, cV_rV]
    exact fin _ rfl _
theorem lawS_close {n : Int} {T : Int → Int} {pl o s wt base : Int} {K : KK} {Wt : Int → Int} {τ : Sg} (hx : TX n T) (p0 : 0 ≤ pl) (p1 : pl ≤ n) (h : LzS n T pl (o + 1) s K (wt + 1) (mup Wt wt (1048576 * 14)) τ) (hc : chA n T pl = 93) (hb : BW wt Wt) (w0 : 0 ≤ wt) (w1 : wt + 3 ≤ 260) (s1 : s ≤ 260) (b0 : 0 ≤ base) (b1 : base ≤ wt) {d : Nat} : ∃ τ', lawS d base τ = lawS d base τ' ∧ Fr SLm τ τ' ∧ ML n T (pl + 1) o s K wt Wt τ' := by
  have hb1 : BW (wt + 1) (mup Wt wt (1048576 * 14)) := hb.up (by omega) (by omega)
  obtain ⟨s2, wt2, Wt2, a1, a2, a3, a4, a5, a6⟩ := h.ml hb1 (by omega)
  have t : wtop (wt + 1) (mup Wt wt (1048576 * 14)) = 14 := by rw [wtop_up w0]; omega
  obtain ⟨τ1, c1, c2, c3⟩ := closeS_all h hb1 (by omega) (by omega) s1 (by omega) (d := d + 3)
  have c1 : f_M_closesSums (d + 6) (zI 1) τ = rV τ1 := c1
  have H := (hos_sp a1 a4 (by omega) b0 (by omega) (d := d + 5)).1 ⟨wt, b1, by omega, by rw [a5 wt (by omega), mup_same]; omega⟩
  have H : f_M_hasOpenSum (d + 6) (zI base) τ = rI (zI 1) τ := H
  have z := pop_ML c3
  refine ⟨sI (sI (sI τ1 102 14 (zI wt)) 102 12 (zI o)) 102 8 (zI (pl + 1)), ?_, ((c2.sI _ rfl).sI _ rfl).sI _ rfl, (open_ML z).up (pl + 1)⟩
  show f_M_readsSum_14 (d + 6) (zI base) .null τ = _
  rw [f_M_readsSum_14_eq, a1.1.here hx p0 p1, cI_rI, hc, sumSign_sp (by decide) (by decide), cI_rI, show lsgn 93 = -1 from rfl, show ((-1) : Int32) = zI (-1) from rfl, if_pos rfl, a1.1.here hx p0 p1, cI_rI, hc, show (93 : Int32) = zI 93 from zI_lit 93, if_pos rfl, H, cI_rI, if1z, show (1 : Int32) = zI 1 from zI_lit 1, c1, cV_rV]
  dsimp only
  rw [c3.2.2.2.1, sI_slot _ _ _ _ (by decide), c3.2.1, sI_slot _ _ _ _ (by decide), sI_slot _ _ _ _ (by decide), c3.1.2.1, zI_sub, zI_sub, zI_add, lawS_any, show wt + 1 - 1 = wt by omega, show o + 1 - 1 = o by omega]
theorem lawS_bad {n : Int} {T : Int → Int} {pl o s wt base : Int} {K : KK} {Wt : Int → Int} {τ : Sg} (hx : TX n T) (p0 : 0 ≤ pl) (p1 : pl ≤ n) (h : LzS n T pl o s K (wt + 1) (mup Wt wt (1048576 * 14)) τ) (hs : lsgn (chA n T pl) = -1) (hc : chA n T pl ≠ 93) (hb : BW wt Wt) (w0 : 0 ≤ wt) (w1 : wt + 3 ≤ 260) (b0 : 0 ≤ base) (b1 : base ≤ wt) {d : Nat} : lawS d base τ = rI (zI 0) (sI τ 102 10 (zI (-1000 - pl))) := by
  obtain ⟨c0, c1, -⟩ := hx.ch p0
  have hb1 : BW (wt + 1) (mup Wt wt (1048576 * 14)) := hb.up (by omega) (by omega)
  obtain ⟨s2, wt2, Wt2, a1, a2, a3, a4, a5, a6⟩ := h.ml hb1 (by omega)
  have H := (hos_sp a1 a4 (by omega) b0 (by omega) (d := d + 5)).1 ⟨wt, b1, by omega, by rw [a5 wt (by omega), mup_same]; omega⟩
  have H : f_M_hasOpenSum (d + 6) (zI base) τ = rI (zI 1) τ := H
  show f_M_readsSum_14 (d + 6) (zI base) .null τ = _
  rw [f_M_readsSum_14_eq, a1.1.here hx p0 p1, cI_rI, sumSign_sp c0 c1, cI_rI, hs, show ((-1) : Int32) = zI (-1) from rfl, if_pos rfl, a1.1.here hx p0 p1, cI_rI, show (93 : Int32) = zI 93 from zI_lit 93, ifEq (by omega) (by decide), if_neg hc, H, cI_rI, if1z, a1.1.2.1, show (1 : Int32) = zI 1 from zI_lit 1, wrongAt_sp, cI_rI, rZ_z0]
  rfl
theorem lawS_end {n : Int} {T : Int → Int} {pl o s wt : Int} {K : KK} {Wt : Int → Int} {τ : Sg} (hx : TX n T) (p0 : 0 ≤ pl) (p1 : pl ≤ n) (h : LzS n T pl o s K wt Wt τ) (hs : lsgn (chA n T pl) = -1) (hb : BW wt Wt) (w0 : 0 ≤ wt) (w1 : wt + 2 ≤ 260) (s1 : s ≤ 260) (ht : ¬ (2 ≤ wtop wt Wt ∧ wtop wt Wt ≤ 6)) {d : Nat} : ∃ τ', lawS d wt τ = rI (zI 1) τ' ∧ Fr SLm τ τ' ∧ ML n T pl o s K wt Wt τ' := by
  obtain ⟨c0, c1, -⟩ := hx.ch p0
  obtain ⟨s2, wt2, Wt2, a1, a2, a3, a4, a5, a6⟩ := h.ml hb w0
  obtain ⟨τ1, e1, e2, e3⟩ := closeS_all h hb w0 (by omega) s1 ht (d := d + 3)
  have e1 : f_M_closesSums (d + 6) (zI 1) τ = rV τ1 := e1
  have H := (hos_sp a1 a4 (by omega) w0 (by omega) (d := d + 5)).2 a6
  have H : f_M_hasOpenSum (d + 6) (zI wt) τ = rI (zI 0) τ := H
  refine ⟨τ1, ?_, e2, e3⟩
  show f_M_readsSum_14 (d + 6) (zI wt) .null τ = _
  rw [f_M_readsSum_14_eq, a1.1.here hx p0 p1, cI_rI, sumSign_sp c0 c1, cI_rI, hs, show ((-1) : Int32) = zI (-1) from rfl, if_pos rfl, a1.1.here hx p0 p1, cI_rI, show (93 : Int32) = zI 93 from zI_lit 93, ifEq (by omega) (by decide)]
  by_cases z : chA n T pl = 93
  · rw [if_pos z, H, cI_rI, if0z, H, cI_rI, if0z, show (1 : Int32) = zI 1 from zI_lit 1, e1, cV_rV]; rfl
  · rw [if_neg z, H, cI_rI, if0z, show (1 : Int32) = zI 1 from zI_lit 1, e1, cV_rV]; rfl
