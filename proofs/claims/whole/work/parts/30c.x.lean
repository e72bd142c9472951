theorem VB.put {n : Int} {v : Int → Int} (h : VB n v) (n6 : n ≤ 6) {x y : Int} (h0 : 0 ≤ x) (h1 : x < n) (y0 : 0 ≤ y) (y1 : y ≤ 9999) : VB n (upI v x y) ∧ VB n (upI v (6 + x) y) ∧ VB n (upI v (12 + x) y) := by
  obtain ⟨b1, b2, b3, b4, b5, b6⟩ := h
  refine ⟨⟨fun k k0 k1 => ?_, fun z z0 z1 z2 => ?_, ?_⟩, ⟨fun k k0 k1 => ?_, fun z z0 z1 z2 => ?_, ?_⟩, ⟨fun k k0 k1 => ?_, fun z z0 z1 z2 => ?_, ?_⟩⟩
  all_goals try (rw [upI_ne (j := 18) _ _ (by omega), upI_ne (j := 19) _ _ (by omega)]; exact ⟨b3, b4, b5, b6⟩)
  all_goals try (rw [upI_ne (j := z) _ _ (by omega), upI_ne (j := 6 + z) _ _ (by omega), upI_ne (j := 12 + z) _ _ (by omega)]; exact b2 z z0 z1 z2)
  all_goals unfold upI
  all_goals split
  all_goals first | exact ⟨y0, y1⟩ | exact b1 k k0 k1
theorem VB.cnt {n : Int} {v : Int → Int} (h : VB n v) {j y : Int} (hj : 20 ≤ j) : VB n (upI v j y) := by
  obtain ⟨b1, b2, b3, b4, b5, b6⟩ := h
  refine ⟨fun k k0 k1 => ?_, fun z z0 z1 z2 => ?_, ?_⟩
  · rw [upI_ne _ _ (by omega)]; exact b1 k k0 k1
  · rw [upI_ne (j := z) _ _ (by omega), upI_ne (j := 6 + z) _ _ (by omega), upI_ne (j := 12 + z) _ _ (by omega)]; exact b2 z z0 z1 z2
  · rw [upI_ne (j := 18) _ _ (by omega), upI_ne (j := 19) _ _ (by omega)]; exact ⟨b3, b4, b5, b6⟩
theorem VB.draw {n : Int} {v : Int → Int} (h : VB n v) : VB n (vDraw v) := by
  obtain ⟨b1, b2, b3, b4, b5, b6⟩ := h
  refine ⟨fun k k0 k1 => ?_, fun z z0 z1 z2 => ?_, ?_⟩
  · unfold vDraw; rw [upI_ne _ _ (by omega)]; exact b1 k k0 k1
  · unfold vDraw; rw [upI_ne (j := z) _ _ (by omega), upI_ne (j := 6 + z) _ _ (by omega), upI_ne (j := 12 + z) _ _ (by omega)]; exact b2 z z0 z1 z2
  · unfold vDraw; rw [upI_ne (j := 18) _ _ (by omega), upI_same]; omega
theorem VB.wed {n : Int} {v : Int → Int} (h : VB n v) (n6 : n ≤ 6) {W : Int → Int} {x wo : Int} {any : Bool} (h0 : 0 ≤ x) (h1 : x < n) (w0 : 0 ≤ W x) (w1 : W x < n) (hw : 0 ≤ wo ∧ wo ≤ 100) : VB n (vWed W x any wo v) := by
  unfold vWed
  split
  · exact h
  · have b1 := h.1 x h0 (by omega); have b2 := h.1 (6 + W x) (by omega) (by omega); have b3 := h.1 (12 + x) (by omega) (by omega)
    have pl := part_le (m := min (v x) (v (6 + W x))) (w := wo) (by omega) (by omega) hw.1 (by omega)
    have hm : 0 ≤ min (min (v x) (v (6 + W x)) * wo / 100) (9999 - v (12 + x)) ∧ min (min (v x) (v (6 + W x)) * wo / 100) (9999 - v (12 + x)) ≤ v x ∧ min (min (v x) (v (6 + W x)) * wo / 100) (9999 - v (12 + x)) ≤ v (6 + W x) ∧ min (min (v x) (v (6 + W x)) * wo / 100) (9999 - v (12 + x)) ≤ 9999 - v (12 + x) := by
      have := pl.2.2.2 hw.2
      omega
    generalize min (min (v x) (v (6 + W x)) * wo / 100) (9999 - v (12 + x)) = m at hm
    refine VB.cnt ?_ (by decide)
    refine ((VB.put ?_ n6 h0 h1 (by omega) (by omega)).2.2)
    refine ((VB.put ?_ n6 w0 w1 (by omega) (by omega)).2.1)
    exact (VB.put h n6 h0 h1 (by omega) (by omega)).1
theorem VB.bear {n : Int} {v : Int → Int} (h : VB n v) (n6 : n ≤ 6) {W C : Int → Int} {x wo : Int} (h0 : 0 ≤ x) (h1 : x < n) (w0 : 0 ≤ C (W x)) (w1 : C (W x) < n) (hw : 0 ≤ wo ∧ wo ≤ 300) : VB n (vBear W C x wo v) := by
  unfold vBear
  have b1 := h.1 (C (W x)) w0 (by omega); have b2 := h.1 (6 + C (W x)) (by omega) (by omega); have b3 := h.1 (12 + x) (by omega) (by omega)
  have pl := part_le (m := v (12 + x)) (w := wo) (by omega) (by omega) hw.1 hw.2
  have hbo : 0 ≤ vBoys v (v (12 + x) * wo / 100) ∧ vBoys v (v (12 + x) * wo / 100) ≤ v (12 + x) * wo / 100 := by unfold vBoys; split <;> omega
  refine VB.cnt ?_ (by decide)
  refine ((VB.put ?_ n6 w0 w1 (by omega) (by omega)).2.1)
  exact (VB.put h n6 w0 w1 (by omega) (by omega)).1
theorem VB.die {n : Int} {v : Int → Int} (h : VB n v) (n6 : n ≤ 6) {x wo : Int} (h0 : 0 ≤ x) (h1 : x < n) (hw : 0 ≤ wo ∧ wo ≤ 100) : VB n (vDie x wo v) := by
  unfold vDie
  have b1 := h.1 x h0 (by omega); have b2 := h.1 (6 + x) (by omega) (by omega); have b3 := h.1 (12 + x) (by omega) (by omega)
  have pl1 := part_le (m := v x) (w := wo) (by omega) (by omega) hw.1 (by omega)
  have pl2 := part_le (m := v (6 + x)) (w := wo) (by omega) (by omega) hw.1 (by omega)
  have pl3 := part_le (m := v (12 + x)) (w := wo) (by omega) (by omega) hw.1 (by omega)
  have l1 := pl1.2.2.2 hw.2; have l2 := pl2.2.2.2 hw.2; have l3 := pl3.2.2.2 hw.2
  refine VB.cnt ?_ (by decide)
  refine ((VB.put ?_ n6 h0 h1 (by omega) (by omega)).2.2)
  refine ((VB.put ?_ n6 h0 h1 (by omega) (by omega)).2.1)
  exact (VB.put h n6 h0 h1 (by omega) (by omega)).1
/-! a year -/
noncomputable def stW (l la : Nat) (D : LD) (W H : Int → Int) (x : Int) (v : Int → Int) : Int → Int := vWed W x (lAny l la D (vFac W H (vDraw v) x) 120 D.1.toNat 0) (lWorth l la D (vFac W H (vDraw v) x) 119 50 100 D.1.toNat 0) (vDraw v)
noncomputable def stY (l la : Nat) (D : LD) (W H C : Int → Int) (x : Int) (v : Int → Int) : Int → Int := vBear W C x (lWorth l la D (vFac W H (vDraw v) x) 98 40 300 D.1.toNat 0) (vDraw v)
noncomputable def stD (l la : Nat) (D : LD) (W H : Int → Int) (x : Int) (v : Int → Int) : Int → Int := vDie x (lWorth l la D (vFac W H (vDraw v) x) 100 2 100 D.1.toNat 0) (vDraw v)
def itv (f : Int → (Int → Int) → (Int → Int)) : Nat → Int → (Int → Int) → (Int → Int)
  | 0, _, v => v
  | k + 1, i, v => itv f k (i + 1) (f i v)
noncomputable def vYear (l la : Nat) (D : LD) (W H C : Int → Int) (n : Nat) (v : Int → Int) : Int → Int := upI (itv (stD l la D W H) n 0 (itv (stY l la D W H C) n 0 (itv (stW l la D W H) n 0 v))) 18 (itv (stD l la D W H) n 0 (itv (stY l la D W H C) n 0 (itv (stW l la D W H) n 0 v)) 18 + 1)
noncomputable def vGo (l la : Nat) (D : LD) (W H C : Int → Int) (n : Nat) : Nat → (Int → Int) → (Int → Int)
  | 0, v => v
  | k + 1, v => if v 18 < 9999 then vGo l la D W H C n k (vYear l la D W H C n v) else v
def VS (a l r : Nat) (n : Int) (D : LD) (W H C v : Int → Int) (σ : Sg) : Prop := VC a v σ ∧ VB n v ∧ RuleAt σ r n ∧ rd σ (r + 1) = W ∧ rd σ (r + 2) = H ∧ rd σ (r + 3) = C ∧ ILaw l σ ∧ ldAt l σ = D
theorem SVL_r {a l r : Nat} (ha : isV a) (hl : isL l) (hr : isR r) : ∀ b k, DRule r b k = true → SVL a l b k = false := by
  have := hl.le; have := hr.le; have := ha.le
  intro b k; simp [DRule, SVL, SV, SL]; omega
theorem SVL_D {a l : Nat} (ha : isV a) (hl : isL l) : ∀ b k, DLaw l b k = true → SVL a l b k = false := by
  have := hl.le; have := ha.le
  intro b k; simp [DLaw, SVL, SV, SL]; omega
theorem VS.fr {a l r : Nat} {n : Int} {D : LD} {W H C v v' : Int → Int} {σ σ' : Sg} (ha : isV a) (hl : isL l) (h : VS a l r n D W H C v σ) (F : Fr (SVL a l) σ σ') (h1 : VC a v' σ') (h2 : VB n v') : VS a l r n D W H C v' σ' := by
  obtain ⟨-, -, h3, h4, h5, h6, h7, h8⟩ := h
  obtain ⟨g1, g2, g3, g4, -⟩ := h3.fr F (SVL_r ha hl h3.1)
  exact ⟨h1, h2, g1, g2.trans h4, g3.trans h5, g4.trans h6, h7.fr F (SVL_D ha hl), (ldAt_fr F (SVL_D ha hl)).trans h8⟩
theorem RuleAt.bd {σ : Sg} {r : Nat} {n : Int} (h : RuleAt σ r n) {x : Int} (h0 : 0 ≤ x) (h1 : x < n) : 0 ≤ rd σ (r + 1) x ∧ rd σ (r + 1) x < n ∧ 0 ≤ rd σ (r + 3) x ∧ rd σ (r + 3) x < n ∧ 0 ≤ rd σ (r + 2) x ∧ rd σ (r + 2) x < n := by
  obtain ⟨-, -, hn, h⟩ := h
  obtain ⟨⟨a1, a2, a3, a4, -, -⟩, b1, b2, -⟩ := h x h0 h1
  exact ⟨a1, a2, b1, b2, a3, a4⟩
theorem stepW_sp {a l r : Nat} {n : Int} {D : LD} {W H C v : Int → Int} {σ : Sg} (ha : isV a) (hl : isL l) (h : VS a l r n D W H C v σ) {d : Nat} {x : Int} (h0 : 0 ≤ x) (h1 : x < n) : ∃ σ1 σ2, f_Village_draw (d + 8) a r (zI x) σ = rV σ1 ∧ f_Village_wedSome (d + 8) a r l (zI x) σ1 = rV σ2 ∧ VS a l r n D W H C (stW l (a + 4) D W H x v) σ2 ∧ Fr (SVL a l) σ σ2 := by
  obtain ⟨σ1, e1, C1, L1, F1⟩ := draw_sp ha h.1 h.2.1 h.2.2.1 (d := d + 5) h0 h1
  have S1 := h.fr ha hl (FVv (l := l) F1) C1 h.2.1.draw
  obtain ⟨-, -, -, hW, hH, hC, -, -⟩ := h
  rw [hW, hH] at L1
  have B1 := S1.2.1
  obtain ⟨-, -, r1, w1, hh1, c1, i1, d1⟩ := S1
  have n6 : n ≤ 6 := r1.2.2.1
  obtain ⟨σ2, e2, C2, F2⟩ := wedSome_sp ha hl (fac := vFac W H (vDraw v) x) ⟨C1, r1, i1, L1⟩ B1 (d := d) h0 h1
  have hq : (rd σ1 l 0).toNat = D.1.toNat := by rw [← d1]; rfl
  rw [w1, d1, hq] at C2
  have bd := r1.bd h0 h1
  rw [w1] at bd
  have B2 : VB n (stW l (a + 4) D W H x v) := B1.wed n6 h0 h1 bd.1 bd.2.1 (lWorth_bd (by decide) _ _)
  exact ⟨σ1, σ2, e1, e2, VS.fr ha hl ⟨C1, B1, r1, w1, hh1, c1, i1, d1⟩ F2 C2 B2, (FVv F1).tr F2⟩
theorem stepB_sp {a l r : Nat} {n : Int} {D : LD} {W H C v : Int → Int} {σ : Sg} (ha : isV a) (hl : isL l) (h : VS a l r n D W H C v σ) {d : Nat} {x : Int} (h0 : 0 ≤ x) (h1 : x < n) : ∃ σ1 σ2, f_Village_draw (d + 8) a r (zI x) σ = rV σ1 ∧ f_Village_bearSome (d + 8) a r l (zI x) σ1 = rV σ2 ∧ VS a l r n D W H C (stY l (a + 4) D W H C x v) σ2 ∧ Fr (SVL a l) σ σ2 := by
  obtain ⟨σ1, e1, C1, L1, F1⟩ := draw_sp ha h.1 h.2.1 h.2.2.1 (d := d + 5) h0 h1
  have S1 := h.fr ha hl (FVv (l := l) F1) C1 h.2.1.draw
  obtain ⟨-, -, -, hW, hH, hC, -, -⟩ := h
  rw [hW, hH] at L1
  have B1 := S1.2.1
  obtain ⟨-, -, r1, w1, hh1, c1, i1, d1⟩ := S1
  have n6 : n ≤ 6 := r1.2.2.1
  obtain ⟨σ2, e2, C2, F2⟩ := bearSome_sp ha hl (fac := vFac W H (vDraw v) x) ⟨C1, r1, i1, L1⟩ rfl B1 (d := d) h0 h1
  have hq : (rd σ1 l 0).toNat = D.1.toNat := by rw [← d1]; rfl
  rw [w1, c1, d1, hq] at C2
  have bd := r1.bd h0 h1
  have bd' := r1.bd bd.1 bd.2.1
  rw [w1] at bd
  rw [w1, c1] at bd'
  have B2 : VB n (stY l (a + 4) D W H C x v) := B1.bear n6 h0 h1 bd'.2.2.1 bd'.2.2.2.1 (lWorth_bd (by decide) _ _)
  exact ⟨σ1, σ2, e1, e2, VS.fr ha hl ⟨C1, B1, r1, w1, hh1, c1, i1, d1⟩ F2 C2 B2, (FVv F1).tr F2⟩
theorem stepD_sp {a l r : Nat} {n : Int} {D : LD} {W H C v : Int → Int} {σ : Sg} (ha : isV a) (hl : isL l) (h : VS a l r n D W H C v σ) {d : Nat} {x : Int} (h0 : 0 ≤ x) (h1 : x < n) : ∃ σ1 σ2, f_Village_draw (d + 8) a r (zI x) σ = rV σ1 ∧ f_Village_dieSome (d + 8) a l (zI x) σ1 = rV σ2 ∧ VS a l r n D W H C (stD l (a + 4) D W H x v) σ2 ∧ Fr (SVL a l) σ σ2 := by
  obtain ⟨σ1, e1, C1, L1, F1⟩ := draw_sp ha h.1 h.2.1 h.2.2.1 (d := d + 5) h0 h1
  have S1 := h.fr ha hl (FVv (l := l) F1) C1 h.2.1.draw
  obtain ⟨-, -, -, hW, hH, hC, -, -⟩ := h
  rw [hW, hH] at L1
  have B1 := S1.2.1
  obtain ⟨-, -, r1, w1, hh1, c1, i1, d1⟩ := S1
  have n6 : n ≤ 6 := r1.2.2.1
  obtain ⟨σ2, e2, C2, F2⟩ := dieSome_sp ha hl (fac := vFac W H (vDraw v) x) ⟨C1, r1, i1, L1⟩ B1 (d := d) h0 (by omega)
  have hq : (rd σ1 l 0).toNat = D.1.toNat := by rw [← d1]; rfl
  rw [d1, hq] at C2
  have B2 : VB n (stD l (a + 4) D W H x v) := B1.die n6 h0 h1 (lWorth_bd (by decide) _ _)
  exact ⟨σ1, σ2, e1, e2, VS.fr ha hl ⟨C1, B1, r1, w1, hh1, c1, i1, d1⟩ F2 C2 B2, (FVv F1).tr F2⟩
theorem go37 {a l r : Nat} {n : Int} {D : LD} {W H C : Int → Int} (ha : isV a) (hl : isL l) {d : Nat} {x3 x4 : Int32} : ∀ (k : Nat) (i : Int) (v : Int → Int) (σ : Sg), VS a l r n D W H C v σ → 0 ≤ i → i + k = n → ∃ σ', f_Village_goBy_37 (d + 8) a r l x3 x4 (zI i) σ = f_Village_goBy_70 (d + 8) a r l x3 x4 (zI 0) σ' ∧ VS a l r n D W H C (itv (stW l (a + 4) D W H) k i v) σ' ∧ Fr (SVL a l) σ σ'
  | 0, i, v, σ, h, h0, hi => by
    have e0 : σ.1 r 0 = zI i := by rw [rd_k]; exact congrArg zI (by have := h.2.2.1.2.1; show rd σ r 0 = i; omega)
    exact ⟨σ, by rw [f_Village_goBy_37_eq, gfI_of h.2.2.1.1.s0, e0, if_neg Int32.lt_irrefl, zI_0], h, Fr.rf _ _⟩
  | k + 1, i, v, σ, h, h0, hi => by
    have n6 : n ≤ 6 := h.2.2.1.2.2.1
    have e0 : σ.1 r 0 = zI n := by rw [rd_k]; exact congrArg zI h.2.2.1.2.1
    obtain ⟨σ1, σ2, e1, e2, h2, F2⟩ := stepW_sp ha hl h (d := d) h0 (by omega)
    obtain ⟨σ3, e3, h3, F3⟩ := go37 ha hl (d := d) (x3 := x3) (x4 := x4) k (i + 1) _ σ2 h2 (by omega) (by omega)
    refine ⟨σ3, ?_, h3, F2.tr F3⟩
    rw [f_Village_goBy_37_eq, gfI_of h.2.2.1.1.s0, e0, if_pos (by rw [zI_le (by omega) (by omega)]; omega), gdK_of ha.s0, e1, cV_rV, gdK_of ha.s0, e2, cV_rV, zI_lit, zI_add]
    exact e3
theorem go70 {a l r : Nat} {n : Int} {D : LD} {W H C : Int → Int} (ha : isV a) (hl : isL l) {d : Nat} {x3 x4 : Int32} : ∀ (k : Nat) (i : Int) (v : Int → Int) (σ : Sg), VS a l r n D W H C v σ → 0 ≤ i → i + k = n → ∃ σ', f_Village_goBy_70 (d + 8) a r l x3 x4 (zI i) σ = f_Village_goBy_103 (d + 8) a r l x3 x4 (zI 0) σ' ∧ VS a l r n D W H C (itv (stY l (a + 4) D W H C) k i v) σ' ∧ Fr (SVL a l) σ σ'
  | 0, i, v, σ, h, h0, hi => by
    have e0 : σ.1 r 0 = zI i := by rw [rd_k]; exact congrArg zI (by have := h.2.2.1.2.1; show rd σ r 0 = i; omega)
    exact ⟨σ, by rw [f_Village_goBy_70_eq, gfI_of h.2.2.1.1.s0, e0, if_neg Int32.lt_irrefl, zI_0], h, Fr.rf _ _⟩
  | k + 1, i, v, σ, h, h0, hi => by
    have n6 : n ≤ 6 := h.2.2.1.2.2.1
    have e0 : σ.1 r 0 = zI n := by rw [rd_k]; exact congrArg zI h.2.2.1.2.1
    obtain ⟨σ1, σ2, e1, e2, h2, F2⟩ := stepB_sp ha hl h (d := d) h0 (by omega)
    obtain ⟨σ3, e3, h3, F3⟩ := go70 ha hl (d := d) (x3 := x3) (x4 := x4) k (i + 1) _ σ2 h2 (by omega) (by omega)
    refine ⟨σ3, ?_, h3, F2.tr F3⟩
    rw [f_Village_goBy_70_eq, gfI_of h.2.2.1.1.s0, e0, if_pos (by rw [zI_le (by omega) (by omega)]; omega), gdK_of ha.s0, e1, cV_rV, gdK_of ha.s0, e2, cV_rV, zI_lit, zI_add]
    exact e3
theorem itv18 {n : Int} {f : Int → (Int → Int) → (Int → Int)} (hf : ∀ x v, 0 ≤ x → x < n → f x v 18 = v 18) : ∀ (k : Nat) (i : Int) (v : Int → Int), 0 ≤ i → i + k ≤ n → itv f k i v 18 = v 18
  | 0, _, _, _, _ => rfl
  | k + 1, i, v, h0, hi => (itv18 hf k (i + 1) (f i v) (by omega) (by omega)).trans (hf i v h0 (by omega))
theorem go103 {a l r : Nat} {n : Int} {D : LD} {W H C : Int → Int} (ha : isV a) (hl : isL l) {d : Nat} {x3 x4 : Int32} : ∀ (k : Nat) (i : Int) (v : Int → Int) (σ : Sg), VS a l r n D W H C v σ → 0 ≤ i → i + k = n → (itv (stD l (a + 4) D W H) k i v) 18 < 9999 → ∃ σ' x, f_Village_goBy_103 (d + 8) a r l x3 x4 (zI i) σ = f_Village_goBy_18 (d + 8) a r l x3 (x4 + 1) x σ' ∧ VS a l r n D W H C (upI (itv (stD l (a + 4) D W H) k i v) 18 (itv (stD l (a + 4) D W H) k i v 18 + 1)) σ' ∧ Fr (SVL a l) σ σ'
  | 0, i, v, σ, h, h0, hi, h18 => by
    have e0 : σ.1 r 0 = zI i := by rw [rd_k]; exact congrArg zI (by have := h.2.2.1.2.1; show rd σ r 0 = i; omega)
    have P := (h.1.cnt (v 18 + 1)).2.2.2
    have G : Fr (SVL a l) σ (sI σ a 3 (zI (v 18 + 1))) := (Fr.rf _ _).sI _ (by simp [SVL, SV])
    have h18 : v 18 < 9999 := h18
    have b := h.2.1
    have B : VB n (upI v 18 (v 18 + 1)) := by
      obtain ⟨b1, b2, b3, b4, b5, b6⟩ := b
      refine ⟨fun k k0 k1 => ?_, fun z z0 z1 z2 => ?_, ?_⟩
      · rw [upI_ne _ _ (by omega)]; exact b1 k k0 k1
      · rw [upI_ne (j := z) _ _ (by omega), upI_ne (j := 6 + z) _ _ (by omega), upI_ne (j := 12 + z) _ _ (by omega)]; exact b2 z z0 z1 z2
      · rw [upI_same, upI_ne (j := 19) _ _ (by omega)]; omega
    refine ⟨_, .int (zI i), ?_, h.fr ha hl G P B, G⟩
    rw [f_Village_goBy_103_eq, gfI_of h.2.2.1.1.s0, e0, if_neg Int32.lt_irrefl, gfI_of ha.s0, h.1.2.1, pfI_of ha.s0]
    have : zI (v 18) + 1 = zI (v 18 + 1) := by rw [zI_lit, zI_add]
    rw [this]
  | k + 1, i, v, σ, h, h0, hi, h18 => by
    have n6 : n ≤ 6 := h.2.2.1.2.2.1
    have e0 : σ.1 r 0 = zI n := by rw [rd_k]; exact congrArg zI h.2.2.1.2.1
    obtain ⟨σ1, σ2, e1, e2, h2, F2⟩ := stepD_sp ha hl h (d := d) h0 (by omega)
    obtain ⟨σ3, x, e3, h3, F3⟩ := go103 ha hl (d := d) (x3 := x3) (x4 := x4) k (i + 1) _ σ2 h2 (by omega) (by omega) h18
    refine ⟨σ3, x, ?_, h3, F2.tr F3⟩
    rw [f_Village_goBy_103_eq, gfI_of h.2.2.1.1.s0, e0, if_pos (by rw [zI_le (by omega) (by omega)]; omega), gdK_of ha.s0, e1, cV_rV, gdK_of ha.s0, e2, cV_rV, zI_lit, zI_add]
    exact e3
theorem vDraw18 (v : Int → Int) : vDraw v 18 = v 18 := upI_ne _ _ (by decide)
theorem stW18 {l la : Nat} {D : LD} {W H : Int → Int} {n : Int} (n6 : n ≤ 6) (hW : ∀ x, 0 ≤ x → x < n → 0 ≤ W x ∧ W x < n) (x : Int) (v : Int → Int) (h0 : 0 ≤ x) (h1 : x < n) : stW l la D W H x v 18 = v 18 := by
  have := hW x h0 h1
  unfold stW vWed
  split
  · exact vDraw18 v
  · rw [upI_ne _ _ (by decide), upI_ne _ _ (by omega), upI_ne _ _ (by omega), upI_ne _ _ (by omega)]; exact vDraw18 v
theorem stB18 {l la : Nat} {D : LD} {W H C : Int → Int} {n : Int} (n6 : n ≤ 6) (hW : ∀ x, 0 ≤ x → x < n → 0 ≤ C (W x) ∧ C (W x) < n) (x : Int) (v : Int → Int) (h0 : 0 ≤ x) (h1 : x < n) : stY l la D W H C x v 18 = v 18 := by
  have := hW x h0 h1
  unfold stY vBear
  rw [upI_ne _ _ (by decide), upI_ne _ _ (by omega), upI_ne _ _ (by omega)]; exact vDraw18 v
theorem stD18 {l la : Nat} {D : LD} {W H : Int → Int} {n : Int} (n6 : n ≤ 6) (x : Int) (v : Int → Int) (h0 : 0 ≤ x) (h1 : x < n) : stD l la D W H x v 18 = v 18 := by
  unfold stD vDie
  rw [upI_ne _ _ (by decide), upI_ne _ _ (by omega), upI_ne _ _ (by omega), upI_ne _ _ (by omega)]; exact vDraw18 v
/-- the years go by -/
theorem go18 {a l r : Nat} {n : Int} {D : LD} {W H C : Int → Int} (ha : isV a) (hl : isL l) {d : Nat} {m : Int} (hm : m ≤ 100) : ∀ (k : Nat) (i : Int) (x : Value) (v : Int → Int) (σ : Sg), VS a l r n D W H C v σ → 0 ≤ n → 0 ≤ i → i + k = m → ∃ σ', f_Village_goBy_18 (d + 8) a r l (zI m) (zI i) x σ = rV σ' ∧ VS a l r n D W H C (vGo l (a + 4) D W H C n.toNat k v) σ' ∧ Fr (SVL a l) σ σ'
  | 0, i, x, v, σ, h, n0, h0, hi => by
    have : i = m := by omega
    subst this
    exact ⟨σ, by rw [f_Village_goBy_18_eq, if_neg Int32.lt_irrefl], h, Fr.rf _ _⟩
  | k + 1, i, x, v, σ, h, n0, h0, hi => by
    have n6 : n ≤ 6 := h.2.2.1.2.2.1
    have b18 := h.2.1.2.2
    unfold vGo
    by_cases q : v 18 < 9999
    · rw [if_pos q]
      have hbd : ∀ x, 0 ≤ x → x < n → (0 ≤ W x ∧ W x < n) ∧ 0 ≤ C (W x) ∧ C (W x) < n := fun x x0 x1 => by
        have bd := h.2.2.1.bd x0 x1
        have bd' := h.2.2.1.bd bd.1 bd.2.1
        rw [h.2.2.2.1] at bd bd'
        rw [h.2.2.2.2.2.1] at bd'
        exact ⟨⟨bd.1, bd.2.1⟩, bd'.2.2.1, bd'.2.2.2.1⟩
      obtain ⟨σ1, e1, h1, F1⟩ := go37 ha hl (d := d) (x3 := zI m) (x4 := zI i) n.toNat 0 v σ h (by decide) (by omega)
      obtain ⟨σ2, e2, h2, F2⟩ := go70 ha hl (d := d) (x3 := zI m) (x4 := zI i) n.toNat 0 _ σ1 h1 (by decide) (by omega)
      have y1 : itv (stW l (a + 4) D W H) n.toNat 0 v 18 = v 18 := itv18 (n := n) (stW18 n6 fun x a b => (hbd x a b).1) _ _ _ (by decide) (by omega)
      have y2 : itv (stY l (a + 4) D W H C) n.toNat 0 (itv (stW l (a + 4) D W H) n.toNat 0 v) 18 = v 18 := (itv18 (n := n) (stB18 n6 fun x a b => (hbd x a b).2) _ _ _ (by decide) (by omega)).trans y1
      have y3 : itv (stD l (a + 4) D W H) n.toNat 0 (itv (stY l (a + 4) D W H C) n.toNat 0 (itv (stW l (a + 4) D W H) n.toNat 0 v)) 18 = v 18 := (itv18 (n := n) (stD18 n6) _ _ _ (by decide) (by omega)).trans y2
      obtain ⟨σ3, x', e3, h3, F3⟩ := go103 ha hl (d := d) (x3 := zI m) (x4 := zI i) n.toNat 0 _ σ2 h2 (by decide) (by omega) (by omega)
      obtain ⟨σ4, e4, h4, F4⟩ := go18 ha hl (d := d) hm k (i + 1) x' _ σ3 h3 n0 (by omega) (by omega)
      refine ⟨σ4, ?_, h4, ((F1.tr F2).tr F3).tr F4⟩
      rw [f_Village_goBy_18_eq, if_pos (by rw [zI_le (by omega) (by omega)]; omega), gfI_of ha.s0, h.1.2.1, if_pos (by rw [zI_lit, zI_le (by omega) (by decide)]; exact q), zI_0, e1, e2, e3, zI_lit, zI_add]
      exact e4
    · rw [if_neg q]
      refine ⟨σ, ?_, h, Fr.rf _ _⟩
      rw [f_Village_goBy_18_eq, if_pos (by rw [zI_le (by omega) (by omega)]; omega), gfI_of ha.s0, h.1.2.1, if_neg (by rw [zI_lit, zI_le (by omega) (by decide)]; exact q)]
