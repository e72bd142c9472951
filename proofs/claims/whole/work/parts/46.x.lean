/-! the least row between people: levels -/
def adj (f : Int → Int → Int32) (x y : Int) : Prop := ∃ k, 0 ≤ k ∧ k < 8 ∧ gb (f k x) y = true
def ball (m : Int) (f : Int → Int → Int32) (q : Int) : Nat → Int → Prop
  | 0, y => y = q
  | i + 1, y => ball m f q i y ∨ (0 ≤ y ∧ y < m ∧ ∃ x, ball m f q i x ∧ adj f x y)
def lyr (m : Int) (f : Int → Int → Int32) (q : Int) : Nat → Int → Prop
  | 0, y => y = q
  | i + 1, y => ball m f q (i + 1) y ∧ ¬ ball m f q i y
theorem lyr_ball {m : Int} {f : Int → Int → Int32} {q : Int} : ∀ {i : Nat} {y : Int}, lyr m f q i y → ball m f q i y
  | 0, _, h => h
  | _ + 1, _, h => h.1
theorem ball_mono {m : Int} {f : Int → Int → Int32} {q : Int} {i j : Nat} {y : Int} (h : ball m f q i y) (hij : i ≤ j) : ball m f q j y := by
  induction j with
  | zero => have : i = 0 := by omega
            subst this; exact h
  | succ j ih =>
    by_cases e : i = j + 1
    · subst e; exact h
    · exact Or.inl (ih (by omega))
theorem ball_rng {m : Int} {f : Int → Int → Int32} {q : Int} (q0 : 0 ≤ q) (q1 : q < m) : ∀ {i : Nat} {y : Int}, ball m f q i y → 0 ≤ y ∧ y < m
  | 0, _, h => by have h : _ = q := h; omega
  | _ + 1, _, h => by
    rcases h with h | h
    · exact ball_rng q0 q1 h
    · exact ⟨h.1, h.2.1⟩
theorem ball_lyr {m : Int} {f : Int → Int → Int32} {q : Int} : ∀ {i : Nat} {y : Int}, ball m f q i y → ∃ j, j ≤ i ∧ lyr m f q j y
  | 0, _, h => ⟨0, by omega, h⟩
  | i + 1, y, h => by
    by_cases g : ball m f q i y
    · obtain ⟨j, hj, hl⟩ := ball_lyr g
      exact ⟨j, by omega, hl⟩
    · exact ⟨i + 1, by omega, h, g⟩
theorem lyr_one {m : Int} {f : Int → Int → Int32} {q : Int} {i j : Nat} {y : Int} (h : lyr m f q i y) (h' : lyr m f q j y) : i = j := by
  have A : ∀ {i j : Nat}, lyr m f q i y → lyr m f q j y → ¬ i < j := fun {i j} h h' e => by
    cases j with
    | zero => omega
    | succ j => exact h'.2 (ball_mono (lyr_ball h) (by omega))
  have := A h h'; have := A h' h
  omega
theorem lyr_next {m : Int} {f : Int → Int → Int32} {q : Int} {i : Nat} {y : Int} (y0 : 0 ≤ y) (y1 : y < m) : lyr m f q (i + 1) y ↔ (∃ x, lyr m f q i x ∧ adj f x y) ∧ ¬ ball m f q i y := by
  constructor
  · rintro ⟨h | ⟨-, -, x, hx, a⟩, g⟩
    · exact absurd h g
    · refine ⟨⟨x, ?_, a⟩, g⟩
      cases i with
      | zero => exact hx
      | succ i => exact ⟨hx, fun z => g (Or.inr ⟨y0, y1, x, z, a⟩)⟩
  · rintro ⟨⟨x, hx, a⟩, g⟩
    exact ⟨Or.inr ⟨y0, y1, x, lyr_ball hx, a⟩, g⟩
theorem relF_fr {S : Nat → Nat → Bool} {σ σ' : Sg} {r p : Nat} (F : Fr S σ σ') (hS : ∀ a k, DRoll r p a k = true → S a k = false) : relF σ' p = relF σ p := by
  have e : ∀ a, (∀ k, DRoll r p a k = true) → rd σ' a = rd σ a := fun a q => funext fun y => fr_rd F (hS a _ (q _))
  have e3 := e (p + 3) (fun k => by simp [DRoll])
  have e4 := e (p + 4) (fun k => by simp [DRoll])
  have e5 := e (p + 5) (fun k => by simp [DRoll])
  have e6 : ∀ k, σ'.1 (p + 6) k = σ.1 (p + 6) k := fun k => F.2 _ _ (hS _ _ (by simp [DRoll]))
  have e7 : ∀ k, σ'.1 (p + 7) k = σ.1 (p + 7) k := fun k => F.2 _ _ (hS _ _ (by simp [DRoll]))
  have e8 : σ'.1 p 8 = σ.1 p 8 := F.2 _ _ (hS _ _ (by simp [DRoll]))
  funext k x
  unfold relF
  rw [e3, e4, e5, e6, e7, e8]
/-- who is related to one has him related in turn -/
theorem adj_symm {σ : Sg} {r p : Nat} (h : IRoll r p σ) (n6 : rd σ r 0 ≤ 6) {x y : Int} (x0 : 0 ≤ x) (x1 : x < rd σ p 0) (y0 : 0 ≤ y) (y1 : y < rd σ p 0) (a : adj (relF σ p) x y) : adj (relF σ p) y x := by
  obtain ⟨m0, m24, ok⟩ := h.1
  obtain ⟨sx, -, -, fx, gx, dx⟩ := ok x x0 x1
  obtain ⟨sy, -, -, fy, gy, dy⟩ := ok y y0 y1
  obtain ⟨hc, hs⟩ := h.2.2.2.1 x y x0 x1 y0 (by omega)
  obtain ⟨hc', hs'⟩ := h.2.2.2.1 y x y0 y1 x0 (by omega)
  have mx := (h.2.2.2.2 x x0 (by omega)).1
  have my := (h.2.2.2.2 y y0 (by omega)).1
  have B : ∀ a : Int, -1 ≤ a → a < 24 → ∀ z, 0 ≤ z → z < 24 → gb (bitF a) z = decide (z = a) := fun a a0 a1 z z0 z1 => gb_bitF (by omega) z0 (by omega)
  have nb : ∀ z : Bool, gb (σ.1 p 8 ^^^ zI (-1)) x = !gb (σ.1 p 8) x := fun _ => gb_not _ x0 (by omega)
  have nb := nb true
  have ny : gb (σ.1 p 8 ^^^ zI (-1)) y = !gb (σ.1 p 8) y := gb_not _ y0 (by omega)
  obtain ⟨k, k0, k1, hk⟩ := a
  have par : (rd σ (p + 3) y = x ∨ rd σ (p + 4) y = x) → adj (relF σ p) y x := fun q => by
    rcases q with q | q
    · refine ⟨0, by decide, by decide, ?_⟩
      show gb (bitF (rd σ (p + 3) y)) x = true
      rw [B _ (by omega) (by omega) x x0 (by omega)]; exact decide_eq_true q.symm
    · refine ⟨1, by decide, by decide, ?_⟩
      show gb (bitF (rd σ (p + 4) y)) x = true
      rw [B _ (by omega) (by omega) x x0 (by omega)]; exact decide_eq_true q.symm
  have chi : (rd σ (p + 3) x = y ∨ rd σ (p + 4) x = y) → adj (relF σ p) y x := fun q => by
    have c : gb (σ.1 (p + 6) y.toNat) x = true := hc'.trans (decide_eq_true ⟨x1, q⟩)
    by_cases s : rd σ (p + 1) x = 0
    · refine ⟨4, by decide, by decide, ?_⟩
      show gb (σ.1 (p + 6) y.toNat &&& σ.1 p 8) x = true
      rw [gb_and, c, mx, decide_eq_true ⟨x1, s⟩]; rfl
    · refine ⟨5, by decide, by decide, ?_⟩
      show gb (σ.1 (p + 6) y.toNat &&& (σ.1 p 8 ^^^ zI (-1))) x = true
      rw [gb_and, c, nb, mx, decide_eq_false (fun z => s z.2)]; rfl
  have sib : gb (σ.1 (p + 7) x.toNat) y = true → adj (relF σ p) y x := fun q => by
    rw [hs] at q
    obtain ⟨q1, q2, q3⟩ := of_decide_eq_true q
    have c : gb (σ.1 (p + 7) y.toNat) x = true := hs'.trans (decide_eq_true ⟨x1, Ne.symm q2, by omega⟩)
    by_cases s : rd σ (p + 1) x = 0
    · refine ⟨6, by decide, by decide, ?_⟩
      show gb (σ.1 (p + 7) y.toNat &&& σ.1 p 8) x = true
      rw [gb_and, c, mx, decide_eq_true ⟨x1, s⟩]; rfl
    · refine ⟨7, by decide, by decide, ?_⟩
      show gb (σ.1 (p + 7) y.toNat &&& (σ.1 p 8 ^^^ zI (-1))) x = true
      rw [gb_and, c, nb, mx, decide_eq_false (fun z => s z.2)]; rfl
  have sp : y = rd σ (p + 5) x → adj (relF σ p) y x := fun q => by
    have e : rd σ (p + 5) y = x := by
      rcases dx with dx | dx
      · omega
      · rw [q]; exact dx.2.2.1
    have c : gb (bitF (rd σ (p + 5) y)) x = true := (B _ (by omega) (by omega) x x0 (by omega)).trans (decide_eq_true e.symm)
    by_cases s : rd σ (p + 1) x = 0
    · refine ⟨2, by decide, by decide, ?_⟩
      show gb (bitF (rd σ (p + 5) y) &&& σ.1 p 8) x = true
      rw [gb_and, c, mx, decide_eq_true ⟨x1, s⟩]; rfl
    · refine ⟨3, by decide, by decide, ?_⟩
      show gb (bitF (rd σ (p + 5) y) &&& (σ.1 p 8 ^^^ zI (-1))) x = true
      rw [gb_and, c, nb, mx, decide_eq_false (fun z => s z.2)]; rfl
  rcases k8 k0 k1 with rfl | rfl | rfl | rfl | rfl | rfl | rfl | rfl
  · have hk : gb (bitF (rd σ (p + 3) x)) y = true := hk
    rw [B _ (by omega) (by omega) y y0 (by omega)] at hk; exact chi (Or.inl (of_decide_eq_true hk).symm)
  · have hk : gb (bitF (rd σ (p + 4) x)) y = true := hk
    rw [B _ (by omega) (by omega) y y0 (by omega)] at hk; exact chi (Or.inr (of_decide_eq_true hk).symm)
  · have hk : gb (bitF (rd σ (p + 5) x) &&& σ.1 p 8) y = true := hk
    rw [gb_and, Bool.and_eq_true, B _ (by omega) (by omega) y y0 (by omega)] at hk; exact sp (of_decide_eq_true hk.1)
  · have hk : gb (bitF (rd σ (p + 5) x) &&& (σ.1 p 8 ^^^ zI (-1))) y = true := hk
    rw [gb_and, Bool.and_eq_true, B _ (by omega) (by omega) y y0 (by omega)] at hk; exact sp (of_decide_eq_true hk.1)
  · have hk : gb (σ.1 (p + 6) x.toNat &&& σ.1 p 8) y = true := hk
    rw [gb_and, Bool.and_eq_true, hc] at hk; exact par (of_decide_eq_true hk.1).2
  · have hk : gb (σ.1 (p + 6) x.toNat &&& (σ.1 p 8 ^^^ zI (-1))) y = true := hk
    rw [gb_and, Bool.and_eq_true, hc] at hk; exact par (of_decide_eq_true hk.1).2
  · have hk : gb (σ.1 (p + 7) x.toNat &&& σ.1 p 8) y = true := hk
    rw [gb_and, Bool.and_eq_true] at hk; exact sib hk.1
  · have hk : gb (σ.1 (p + 7) x.toNat &&& (σ.1 p 8 ^^^ zI (-1))) y = true := hk
    rw [gb_and, Bool.and_eq_true] at hk; exact sib hk.1
/-! the class's layers -/
def S66 (a _k : Nat) : Bool := a == 66
theorem S66_D {r p : Nat} (hr : isR r) (hp : isP p) : ∀ a k, DRoll r p a k = true → S66 a k = false := by
  intro a k h
  unfold S66
  rw [beq_eq_false_iff_ne]
  rintro rfl
  rcases hr with rfl | rfl <;> rcases hp with rfl | rfl <;> simp [DRoll] at h
theorem layersFrom_sp {σ : Sg} {r p : Nat} (h : IRoll r p σ) (hr : isR r) (hp : isP p) (n6 : rd σ r 0 ≤ 6) {d : Nat} {q x : Int} (q0 : 0 ≤ q) (q1 : q < rd σ p 0) (x0 : 0 ≤ x) (x1 : x < rd σ p 0) : ∃ (v : Int) (σ' : Sg), f_Row_layersFrom (d + 4) p (zI q) (zI x) σ = rI (zI v) σ' ∧ Fr S66 σ σ' ∧ ((v = -1 ∧ ∀ j, j < 24 → ¬ lyr (rd σ p 0) (relF σ p) q j x) ∨ (0 ≤ v ∧ v < 24 ∧ lyr (rd σ p 0) (relF σ p) q v.toNat x ∧ ∀ j : Nat, j ≤ v.toNat → ∀ y, 0 ≤ y → y < 32 → (gb (σ'.1 66 j) y = true ↔ lyr (rd σ p 0) (relF σ p) q j y))) := by
  obtain ⟨m0, m24, -⟩ := id h.1
  generalize hm : rd σ p 0 = m at *
  have step : ∀ (i : Int) (s : Int32) (σ1 : Sg) (x6 x7 : Value), 0 ≤ i → i < 24 → Fr S66 σ σ1 → (∀ j : Nat, (j : Int) ≤ i → ∀ y, 0 ≤ y → y < 32 → (gb (σ1.1 66 j) y = true ↔ lyr m (relF σ p) q j y)) → (∀ y, 0 ≤ y → y < 32 → (gb s y = true ↔ ball m (relF σ p) q i.toNat y)) → ¬ lyr m (relF σ p) q i.toNat x →
      ∃ (s' : Int32) (σ2 : Sg) (y6 y7 : Value), f_Row_layersFrom_16 (d + 3) p (.int (zI q)) (zI x) s (zI i) x6 x7 σ1 = f_Row_layersFrom_16 (d + 3) p (.int (zI q)) (zI x) s' (zI (i + 1)) y6 y7 σ2 ∧ Fr S66 σ σ2 ∧ (∀ j : Nat, (j : Int) ≤ i + 1 → ∀ y, 0 ≤ y → y < 32 → (gb (σ2.1 66 j) y = true ↔ lyr m (relF σ p) q j y)) ∧ (∀ y, 0 ≤ y → y < 32 → (gb s' y = true ↔ ball m (relF σ p) q (i + 1).toNat y)) := by
    intro i s σ1 x6 x7 i0 i1 F1 hl hs hx
    have ir : IRoll r p σ1 := h.fr F1 (S66_D hr hp)
    have er : relF σ1 p = relF σ p := relF_fr F1 (S66_D hr hp)
    have em : rd σ1 p 0 = m := hm ▸ fr_rd F1 (S66_D hr hp _ _ (by simp [DRoll]))
    have en : rd σ1 r 0 ≤ 6 := by rw [fr_rd F1 (S66_D hr hp _ _ (by simp [DRoll]))]; exact n6
    have hi : ∀ y, 0 ≤ y → y < 32 → (gb (σ1.1 66 i.toNat) y = true ↔ lyr m (relF σ p) q i.toNat y) := fun y y0 y1 => hl i.toNat (by omega) y y0 y1
    -- all who come next
    have hin : ∀ (k : Int) (t : Int32), k ≤ 8 → (0 ≤ k ∧ ∀ y, 0 ≤ y → y < 32 → (gb t y = true ↔ ∃ j, 0 ≤ j ∧ j < k ∧ ∃ e, 0 ≤ e ∧ e < m ∧ lyr m (relF σ p) q i.toNat e ∧ gb (relF σ p j e) y = true)) → ∃ t' : Int32, f_Row_layersFrom_46 (d + 3) p (.int (zI q)) (zI x) s (zI i) t (zI k) σ1 = f_Row_layersFrom_46 (d + 3) p (.int (zI q)) (zI x) s (zI i) t' (zI 8) σ1 ∧ ∀ y, 0 ≤ y → y < 32 → (gb t' y = true ↔ ∃ e, 0 ≤ e ∧ e < m ∧ lyr m (relF σ p) q i.toNat e ∧ adj (relF σ p) e y) := by
      intro k t hk hP
      refine zloop (α := Int32) 8 (fun k t => f_Row_layersFrom_46 (d + 3) p (.int (zI q)) (zI x) s (zI i) t (zI k) σ1) (fun k t => 0 ≤ k ∧ ∀ y, 0 ≤ y → y < 32 → (gb t y = true ↔ ∃ j, 0 ≤ j ∧ j < k ∧ ∃ e, 0 ≤ e ∧ e < m ∧ lyr m (relF σ p) q i.toNat e ∧ gb (relF σ p j e) y = true)) (fun o => ∃ t' : Int32, o = f_Row_layersFrom_46 (d + 3) p (.int (zI q)) (zI x) s (zI i) t' (zI 8) σ1 ∧ ∀ y, 0 ≤ y → y < 32 → (gb t' y = true ↔ ∃ e, 0 ≤ e ∧ e < m ∧ lyr m (relF σ p) q i.toNat e ∧ adj (relF σ p) e y)) ?_ ?_ k t hk hP
      · rintro k t hk ⟨k0, ht⟩
        obtain ⟨u, eu, hu⟩ := relAny_sp ir hp en (d := d) k0 hk (σ1.1 66 i.toNat)
        unfold relU at hu; rw [er, em] at hu
        refine Or.inr ⟨t ||| u, ?_, by omega, fun y y0 y1 => ?_⟩
        · show f_Row_layersFrom_46 (d + 3) p (.int (zI q)) (zI x) s (zI i) t (zI k) σ1 = _
          rw [f_Row_layersFrom_46_eq, show (8 : Int32) = zI 8 from zI_lit 8, show (1 : Int32) = zI 1 from zI_lit 1, if_pos (by rw [zI_le (by omega) (by omega)]; exact hk), bnd_zI (by omega) (by omega) (by omega), gdK_of hp.s0, ix_zI (by omega) (by omega), eu, cI_rI, zI_add]
        · rw [gb_or, Bool.or_eq_true, ht y y0 y1, hu y y0 y1]
          constructor
          · rintro (⟨j, j0, j1, e⟩ | ⟨e, e0, e1, e2, e3⟩)
            · exact ⟨j, j0, by omega, e⟩
            · exact ⟨k, k0, by omega, e, e0, e1, (hi e e0 (by omega)).mp e2, e3⟩
          · rintro ⟨j, j0, j1, e, e0, e1, e2, e3⟩
            by_cases z : j = k
            · subst z; exact Or.inr ⟨e, e0, e1, (hi e e0 (by omega)).mpr e2, e3⟩
            · exact Or.inl ⟨j, j0, by omega, e, e0, e1, e2, e3⟩
      · rintro t ⟨-, ht⟩
        refine ⟨t, rfl, fun y y0 y1 => ?_⟩
        rw [ht y y0 y1]
        constructor
        · rintro ⟨j, j0, j1, e, e0, e1, e2, e3⟩; exact ⟨e, e0, e1, e2, j, j0, j1, e3⟩
        · rintro ⟨e, e0, e1, e2, j, j0, j1, e3⟩; exact ⟨j, j0, j1, e, e0, e1, e2, e3⟩
    obtain ⟨t, et, ht⟩ := hin 0 (zI 0) (by decide) ⟨by decide, fun y y0 y1 => by
      rw [gb_0]
      constructor
      · intro z; cases z
      · rintro ⟨j, j0, j1, -⟩; omega⟩
    have hr' : ∀ y, 0 ≤ y → y < 32 → (∃ e, 0 ≤ e ∧ e < m ∧ lyr m (relF σ p) q i.toNat e ∧ adj (relF σ p) e y) → y < m := fun y y0 y1 => by
      rintro ⟨e, e0, e1, -, j, j0, j1, g⟩
      rw [← hm]; rw [← hm] at e1
      exact relF_bd h n6 e0 e1 y0 y1 g
    have sp : ∀ y, 0 ≤ y → y < 32 → (gb (t &&& (s ^^^ zI (-1))) y = true ↔ lyr m (relF σ p) q (i.toNat + 1) y) := fun y y0 y1 => by
      rw [gb_and, gb_not _ y0 y1, Bool.and_eq_true, ht y y0 y1, Bool.not_eq_true', ← Bool.not_eq_true, hs y y0 y1]
      constructor
      · rintro ⟨g, g'⟩
        have := hr' y y0 y1 g
        obtain ⟨e, e0, e1, e2, e3⟩ := g
        exact (lyr_next y0 this).mpr ⟨⟨e, e2, e3⟩, g'⟩
      · intro g
        have yr := ball_rng q0 q1 (lyr_ball g)
        obtain ⟨⟨e, e2, e3⟩, g'⟩ := (lyr_next y0 yr.2).mp g
        have := ball_rng q0 q1 (lyr_ball e2)
        exact ⟨⟨e, this.1, this.2, e2, e3⟩, g'⟩
    have i1' : (i + 1).toNat = i.toNat + 1 := by omega
    refine ⟨s ||| t, sI σ1 66 (i + 1).toNat (t &&& (s ^^^ zI (-1))), .int t, .int (zI 8), ?_, F1.sI _ rfl, fun j hj y y0 y1 => ?_, fun y y0 y1 => ?_⟩
    · rw [f_Row_layersFrom_16_eq, show (24 : Int32) = zI 24 from zI_lit 24, if_pos (by rw [zI_le (by omega) (by omega)]; exact i1), bnd_zI (by omega) (by omega) (by omega), ix_zI (by omega) (by omega), show (1 : Int32) = zI 1 from zI_lit 1, show (31 : Int32) = zI 31 from zI_lit 31, zI_0, if_pos (by
        rw [gb_sh1 _ x0 (by omega)]
        cases g : gb (σ1.1 66 i.toNat) x with
        | false => rfl
        | true => exact absurd ((hi x x0 (by omega)).mp g) hx), et, f_Row_layersFrom_46_eq, show (8 : Int32) = zI 8 from zI_lit 8, if_neg (by decide), show (1 : Int32) = zI 1 from zI_lit 1, zI_add, bnd_zI (by omega) (by omega) (by omega), ix_zI (by omega) (by omega)]
      rfl
    · by_cases e : j = (i + 1).toNat
      · subst e; rw [sI_same, sp y y0 y1, i1']
      · rw [sI_slot _ _ _ _ e]; exact hl j (by omega) y y0 y1
    · rw [gb_or, Bool.or_eq_true, hs y y0 y1, ht y y0 y1, i1']
      constructor
      · rintro (g | g)
        · exact Or.inl g
        · have := hr' y y0 y1 g
          obtain ⟨e, e0, e1, e2, e3⟩ := g
          exact Or.inr ⟨y0, this, e, lyr_ball e2, e3⟩
      · intro g
        by_cases g' : ball m (relF σ p) q i.toNat y
        · exact Or.inl g'
        · have yr := ball_rng q0 q1 g
          obtain ⟨⟨e, e2, e3⟩, -⟩ := (lyr_next y0 yr.2).mp ⟨g, g'⟩
          have := ball_rng q0 q1 (lyr_ball e2)
          exact Or.inr ⟨e, this.1, this.2, e2, e3⟩
  -- the loop
  have loop : ∀ (k : Nat) (i : Int) (s : Int32) (σ1 : Sg) (x6 x7 : Value), i + k = 24 → 0 ≤ i → Fr S66 σ σ1 → (∀ j : Nat, (j : Int) ≤ i → ∀ y, 0 ≤ y → y < 32 → (gb (σ1.1 66 j) y = true ↔ lyr m (relF σ p) q j y)) → (∀ y, 0 ≤ y → y < 32 → (gb s y = true ↔ ball m (relF σ p) q i.toNat y)) → (∀ j : Nat, (j : Int) < i → ¬ lyr m (relF σ p) q j x) →
      ∃ (v : Int) (σ' : Sg), f_Row_layersFrom_16 (d + 3) p (.int (zI q)) (zI x) s (zI i) x6 x7 σ1 = rI (zI v) σ' ∧ Fr S66 σ σ' ∧ ((v = -1 ∧ ∀ j, j < 24 → ¬ lyr m (relF σ p) q j x) ∨ (0 ≤ v ∧ v < 24 ∧ lyr m (relF σ p) q v.toNat x ∧ ∀ j : Nat, j ≤ v.toNat → ∀ y, 0 ≤ y → y < 32 → (gb (σ'.1 66 j) y = true ↔ lyr m (relF σ p) q j y))) := by
    intro k
    induction k with
    | zero =>
      intro i s σ1 x6 x7 hk i0 F1 hl hs hn
      refine ⟨-1, σ1, ?_, F1, Or.inl ⟨rfl, fun j hj => hn j (by omega)⟩⟩
      rw [f_Row_layersFrom_16_eq, show (24 : Int32) = zI 24 from zI_lit 24, if_neg (by rw [zI_le (by omega) (by omega)]; omega)]
      rfl
    | succ k ih =>
      intro i s σ1 x6 x7 hk i0 F1 hl hs hn
      by_cases g : lyr m (relF σ p) q i.toNat x
      · refine ⟨i, σ1, ?_, F1, Or.inr ⟨i0, by omega, g, fun j hj => hl j (by omega)⟩⟩
        rw [f_Row_layersFrom_16_eq, show (24 : Int32) = zI 24 from zI_lit 24, if_pos (by rw [zI_le (by omega) (by omega)]; omega), bnd_zI (by omega) (by omega) (by omega), ix_zI (by omega) (by omega), show (1 : Int32) = zI 1 from zI_lit 1, show (31 : Int32) = zI 31 from zI_lit 31, zI_0, if_neg (by
          rw [gb_sh1 _ x0 (by omega), (hl i.toNat (by omega) x x0 (by omega)).mpr g]; exact Bool.noConfusion)]
      · obtain ⟨s', σ2, y6, y7, e, F2, hl', hs'⟩ := step i s σ1 x6 x7 i0 (by omega) F1 hl hs g
        rw [e]
        exact ih (i + 1) s' σ2 y6 y7 (by omega) (by omega) F2 hl' hs' fun j hj => by
          by_cases z : (j : Int) = i
          · have : j = i.toNat := by omega
            rw [this]; exact g
          · exact hn j (by omega)
  have b0 : ∀ y, 0 ≤ y → y < 32 → (gb (zI 1 <<< (zI q &&& zI 31)) y = true ↔ y = q) := fun y y0 y1 => by rw [gb_sh q0 (by omega) y0 y1]; exact decide_eq_true_iff
  rw [f_Row_layersFrom_eq, show (1 : Int32) = zI 1 from zI_lit 1, show (31 : Int32) = zI 31 from zI_lit 31, zI_0, bnd_zI (by decide) (by decide) (by decide), ix_zI (by decide) (by decide)]
  exact loop 24 0 _ _ .null .null rfl (by decide) ((Fr.rf _ σ).sI _ rfl) (fun j hj y y0 y1 => by
    have : j = 0 := by omega
    subst this
    show gb ((sI σ 66 0 _).1 66 0) y = true ↔ _
    rw [sI_same]; exact b0 y y0 y1) (fun y y0 y1 => b0 y y0 y1) fun j hj => by omega
