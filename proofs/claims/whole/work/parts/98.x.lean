/-! houses -/
theorem isFirst_sp {r p l : Nat} {σ : Sg} (h : Inv r p l σ) {d : Nat} {x : Int} (x0 : 0 ≤ x) (x1 : x < rd σ p 0) : f_M_isFirst (d + 4) (zI x) σ = rI (bz (decide (rd σ 77 x = x))) σ := by
  obtain ⟨⟨a, b⟩, c, e, -⟩ := h.mb x0 x1
  have m24 := h.2.2.2.1.1.2.1
  obtain ⟨u, a1, a2⟩ := houseOf_sp h.hx (d := d) x0 x1
  have lo := lowestM_sp (σ := σ) (d := d + 1) (s := u) (k := rd σ 77 x) ((a2 _ a (by omega)).mpr ⟨by omega, c⟩) ⟨a, by omega⟩ fun j j0 j1 => by
    cases q : gb u j with
    | false => rfl
    | true =>
      have := (a2 j j0 (by omega)).mp q
      have := e j j0 this.1 this.2
      omega
  rw [f_M_isFirst_eq, a1, cI_rI, lo, cI_rI]
  by_cases z : rd σ 77 x = x
  · rw [if_pos (congrArg zI z), rZ_1, decide_eq_true z]; rfl
  · rw [if_neg (by rw [zI_eq (by omega) (by omega)]; exact z), rZ_0, decide_eq_false z]; rfl
theorem mb_zero {r p l : Nat} {σ : Sg} (h : Inv r p l σ) {x : Int} (x0 : 0 ≤ x) (x1 : x < rd σ p 0) : σ.1 76 x.toNat = zI 0 ↔ ¬ ∃ g, Cs (rd σ r 0) (rd σ p 0) (rd σ (r + 1)) (rd σ (r + 2)) (rd σ (r + 4)) (rd σ (p + 1)) (rd σ (p + 3)) (rd σ (p + 4)) (rd σ (p + 5)) x g ∧ ∀ z, 0 ≤ z → z < rd σ p 0 → Hs (rd σ p 0) (rd σ (p + 3)) (rd σ (p + 4)) (rd σ (p + 5)) x z → 0 ≤ rd σ (p + 2) z → rd σ (p + 2) z = g z := by
  obtain ⟨-, -, -, f⟩ := h.mb x0 x1
  have n6 := h.n.2.2.1
  constructor
  · rintro e ⟨g, g1, g2⟩
    have gx := g1 x x0 x1 (Hs.rf _ _ _ _ _)
    have := (f (g x) gx.1 (by omega)).mpr ⟨gx.2.1, g, g1, rfl, g2⟩
    rw [e, gb_0] at this; cases this
  · intro no
    refine gb_ext fun y y0 y1 => ?_
    rw [gb_0]
    cases q : gb (σ.1 76 x.toNat) y with
    | false => rfl
    | true =>
      obtain ⟨-, g, g1, -, g3⟩ := (f y y0 y1).mp q
      exact absurd ⟨g, g1, g3⟩ no
theorem mb_zero_mv {r p l : Nat} {σ : Sg} (h : Inv r p l σ) {x y : Int} (x0 : 0 ≤ x) (x1 : x < rd σ p 0) (y0 : 0 ≤ y) (y1 : y < rd σ p 0) (hs : Hs (rd σ p 0) (rd σ (p + 3)) (rd σ (p + 4)) (rd σ (p + 5)) x y) : σ.1 76 x.toNat = zI 0 ↔ σ.1 76 y.toNat = zI 0 := by
  rw [mb_zero h x0 x1, mb_zero h y0 y1]
  exact not_congr ⟨fun ⟨g, g1, g2⟩ => ⟨g, g1.mv hs, fun z z0 z1 hz t => g2 z z0 z1 (hs.tr hz) t⟩, fun ⟨g, g1, g2⟩ => ⟨g, g1.mv hs.sy, fun z z0 z1 hz t => g2 z z0 z1 (hs.sy.tr hz) t⟩⟩
def hdP (σ : Sg) (x : Int) : Bool := decide (rd σ 77 x = x)
def wrP (σ : Sg) (x : Int) : Bool := decide (σ.1 76 x.toNat = zI 0)
theorem manyH_sp {σ : Sg} {d : Nat} {m : Int} (m0 : 0 ≤ m) (m24 : m ≤ 24) {w : Int} (hw : w = 0 ∨ w = 1) : f_Houses_howMany (d + 1) (zI m) (zI w) σ = rI (zI (cnt (fun x => hdP σ x && (decide (w = 0) || wrP σ x)) m.toNat)) σ := by
  rw [f_Houses_howMany_eq, zI_0]
  refine zloop m (fun i (a' : Int) => f_Houses_howMany_5 d (zI m) (zI w) (zI a') (zI i) σ) (fun i a' => 0 ≤ i ∧ a' = cnt (fun x => hdP σ x && (decide (w = 0) || wrP σ x)) i.toNat) (fun o => o = rI (zI (cnt (fun x => hdP σ x && (decide (w = 0) || wrP σ x)) m.toNat)) σ) ?_ ?_ 0 0 m0 ⟨by decide, rfl⟩
  · rintro i a' hi ⟨h0, rfl⟩
    refine Or.inr ⟨cnt (fun x => hdP σ x && (decide (w = 0) || wrP σ x)) (i + 1).toNat, ?_, by omega, rfl⟩
    have e77 : σ.1 77 i.toNat = zI (rd σ 77 i) := by rw [rd_k, toNat_c h0]
    have kk : (zI (rd σ 77 i) = zI i) = (rd σ 77 i = i) := zI_eq ⟨rd_lo _ _ _, rd_hi _ _ _⟩ (by omega)
    show f_Houses_howMany_5 _ _ _ _ _ σ = _
    rw [f_Houses_howMany_5_eq, if_pos (by rw [zI_le (by omega) (by omega)]; exact hi), bnd_zI h0 (by omega) (by omega), bnd_zI h0 (by omega) (by omega), ix_zI h0 (by omega), e77]
    rw [show (i + 1).toNat = i.toNat + 1 by omega, cnt_s, show ((i.toNat : Nat) : Int) = i by omega, show (1 : Int32) = zI 1 from zI_lit 1, zI_0, zI_add, zI_add]
    unfold hdP wrP
    by_cases q : rd σ 77 i = i
    · rw [if_pos (by rw [kk]; exact q), decide_eq_true q, Bool.true_and]
      rcases hw with rfl | rfl
      · rw [if_pos rfl, decide_eq_true rfl, Bool.true_or, if_pos rfl]
      · rw [if_neg (by decide), decide_eq_false (by decide), Bool.false_or]
        by_cases z : σ.1 76 i.toNat = zI 0
        · rw [if_pos z, if_pos (decide_eq_true z)]
        · rw [if_neg z, if_neg (by simpa using z), Int.add_zero]
    · rw [if_neg (by rw [kk]; exact q), decide_eq_false q, Bool.false_and, if_neg Bool.false_ne_true, Int.add_zero]
  · rintro a' ⟨-, rfl⟩
    show f_Houses_howMany_5 _ _ _ _ _ σ = _
    rw [f_Houses_howMany_5_eq, if_neg Int32.lt_irrefl]
theorem wrongOnes_sp {σ : Sg} {d : Nat} {m : Int} (m0 : 0 ≤ m) (m24 : m ≤ 24) : ∃ s, f_Houses_wrongOnes (d + 1) (zI m) σ = rI s σ ∧ ∀ y, 0 ≤ y → y < 32 → gb s y = (decide (y < m) && wrP σ y) := by
  rw [f_Houses_wrongOnes_eq, zI_0]
  refine setloop (F := fun i s => f_Houses_wrongOnes_4 d (zI m) s (zI i) σ) (fun i s i0 i1 => ?_) (fun s => ?_) m0 (by omega)
  · show f_Houses_wrongOnes_4 _ _ _ _ _ = f_Houses_wrongOnes_4 _ _ _ _ _
    rw [f_Houses_wrongOnes_4_eq, if_pos (by rw [zI_le (by omega) (by omega)]; exact i1), bnd_zI i0 (by omega) (by omega), ix_zI i0 (by omega), zI_0, show (1 : Int32) = zI 1 from zI_lit 1, show (31 : Int32) = zI 31 from zI_lit 31, zI_add]
    unfold wrP
    by_cases z : σ.1 76 i.toNat = zI 0
    · rw [if_pos z, if_pos (decide_eq_true z)]
    · rw [if_neg z, if_neg (by simpa using z)]
  · show f_Houses_wrongOnes_4 _ _ _ _ _ = _
    rw [f_Houses_wrongOnes_4_eq, if_neg Int32.lt_irrefl]
theorem housesM_sp {r p l : Nat} {σ : Sg} (h : Inv r p l σ) {d : Nat} {w : Int} (hw : 0 ≤ w ∧ w ≤ 2) : ∃ τ' s, f_M_houses_21 (d + 9) (zI w) (zI 0) (zI 0) (zI 0) (zI 0) σ = rI (if w = 0 then zI (cnt (hdP σ) (rd σ p 0).toNat) else if w = 1 then zI (cnt (fun x => hdP σ x && wrP σ x) (rd σ p 0).toNat) else s) τ' ∧ Fr S152 σ τ' ∧ ∀ y, 0 ≤ y → y < 32 → (gb s y = true ↔ ∃ i, 0 ≤ i ∧ i < rd σ p 0 ∧ hdP σ i = true ∧ wrP σ i = true ∧ y < rd σ p 0 ∧ Hs (rd σ p 0) (rd σ (p + 3)) (rd σ (p + 4)) (rd σ (p + 5)) i y) := by
  obtain ⟨m0, m24, -⟩ := h.2.2.2.1.1
  have hb := h.bits
  have loop : ∀ (k : Nat) (i : Int) (s0 : Int32) (τ : Sg), i + k = rd σ p 0 → 0 ≤ i → Fr S152 σ τ → (∀ y, 0 ≤ y → y < 32 → (gb s0 y = true ↔ ∃ j, 0 ≤ j ∧ j < i ∧ hdP σ j = true ∧ wrP σ j = true ∧ y < rd σ p 0 ∧ Hs (rd σ p 0) (rd σ (p + 3)) (rd σ (p + 4)) (rd σ (p + 5)) j y)) → ∃ τ' s, f_M_houses_21 (d + 9) (zI w) (zI (cnt (hdP σ) i.toNat)) (zI (cnt (fun x => hdP σ x && wrP σ x) i.toNat)) s0 (zI i) τ = rI (if w = 0 then zI (cnt (hdP σ) (rd σ p 0).toNat) else if w = 1 then zI (cnt (fun x => hdP σ x && wrP σ x) (rd σ p 0).toNat) else s) τ' ∧ Fr S152 σ τ' ∧ ∀ y, 0 ≤ y → y < 32 → (gb s y = true ↔ ∃ i, 0 ≤ i ∧ i < rd σ p 0 ∧ hdP σ i = true ∧ wrP σ i = true ∧ y < rd σ p 0 ∧ Hs (rd σ p 0) (rd σ (p + 3)) (rd σ (p + 4)) (rd σ (p + 5)) i y) := by
    intro k
    induction k with
    | zero =>
      intro i s0 τ hi i0 K hs
      have : i = rd σ p 0 := by omega
      subst this
      refine ⟨τ, s0, ?_, K, hs⟩
      rw [f_M_houses_21_eq, (h.hx.f152 K).rl.2.2.1, if_neg Int32.lt_irrefl, zI_0, show (1 : Int32) = zI 1 from zI_lit 1]
      by_cases z : w = 0
      · rw [if_pos (congrArg zI z), if_pos z]
      · rw [if_neg (by rw [zI_eq (by omega) (by decide)]; exact z), if_neg z]
        by_cases y : w = 1
        · rw [if_pos (congrArg zI y), if_pos y]
        · rw [if_neg (by rw [zI_eq (by omega) (by decide)]; exact y), if_neg y]
    | succ k ih =>
      intro i s0 τ hi i0 K hs
      have i1 : i < rd σ p 0 := by omega
      have hτ := S152_scr h K
      have ep : rd τ p 0 = rd σ p 0 := fr_rd K (by rcases hb.2.1 with rfl | rfl <;> rfl)
      have e77 : rd τ 77 i = rd σ 77 i := fr_rd K rfl
      have e76 : τ.1 76 i.toNat = σ.1 76 i.toNat := K.2 _ _ rfl
      have fi := isFirst_sp hτ (d := d + 5) i0 (by rw [ep]; exact i1)
      rw [e77] at fi
      obtain ⟨τ1, m1, K1⟩ := mayBe_at hτ (d := d + 1) i0 (by rw [ep]; exact i1)
      rw [e76] at m1
      have K01 := K.tr K1
      have hτ1 := S152_scr h K01
      obtain ⟨u, h1, h2⟩ := houseOf_sp (h.hx.f152 K01) (d := d + 6) i0 i1
      have cs1 : cnt (hdP σ) (i + 1).toNat = cnt (hdP σ) i.toNat + (if hdP σ i = true then 1 else 0) := by rw [show (i + 1).toNat = i.toNat + 1 by omega, cnt_s, show ((i.toNat : Nat) : Int) = i by omega]
      have cs2 : cnt (fun x => hdP σ x && wrP σ x) (i + 1).toNat = cnt (fun x => hdP σ x && wrP σ x) i.toNat + (if (hdP σ i && wrP σ i) = true then 1 else 0) := by rw [show (i + 1).toNat = i.toNat + 1 by omega, cnt_s, show ((i.toNat : Nat) : Int) = i by omega]
      rw [f_M_houses_21_eq, (h.hx.f152 K).rl.2.2.1, if_pos (by rw [zI_le (by omega) (by omega)]; exact i1), fi, cI_rI, m1, cI_rI, h1, cI_rI, zI_0, show (1 : Int32) = zI 1 from zI_lit 1, zI_add, zI_add, zI_add]
      by_cases z : rd σ 77 i = i
      · have hz : hdP σ i = true := decide_eq_true z
        rw [decide_eq_true z, bz_tt, if_neg (by decide)]
        by_cases y : σ.1 76 i.toNat = zI 0
        · have hy : wrP σ i = true := decide_eq_true y
          rw [if_pos y]
          rw [hz, hy, Bool.and_true, if_pos rfl] at cs2
          rw [hz, if_pos rfl] at cs1
          have := ih (i + 1) (s0 ||| u) τ1 (by omega) (by omega) K01 fun a a0 a1 => by
            rw [gb_or, Bool.or_eq_true, hs a a0 a1, h2 a a0 a1]
            constructor
            · rintro (⟨j, j0, j1, q⟩ | ⟨q1, q2⟩)
              · exact ⟨j, j0, by omega, q⟩
              · exact ⟨i, i0, by omega, hz, hy, q1, q2⟩
            · rintro ⟨j, j0, j1, q1, q2, q3, q4⟩
              by_cases ji : j = i
              · subst ji; exact Or.inr ⟨q3, q4⟩
              · exact Or.inl ⟨j, j0, by omega, q1, q2, q3, q4⟩
          rw [cs1, cs2] at this
          exact this
        · have hy : wrP σ i = false := decide_eq_false y
          rw [if_neg y]
          rw [hz, hy] at cs2
          rw [hz] at cs1
          rw [if_pos rfl] at cs1
          rw [Bool.and_false, if_neg Bool.false_ne_true, Int.add_zero] at cs2
          have := ih (i + 1) s0 τ1 (by omega) (by omega) K01 fun a a0 a1 => (hs a a0 a1).trans ⟨fun ⟨j, j0, j1, q⟩ => ⟨j, j0, by omega, q⟩, fun ⟨j, j0, j1, q1, q2, q3⟩ => by
            by_cases ji : j = i
            · subst ji; rw [hy] at q2; cases q2
            · exact ⟨j, j0, by omega, q1, q2, q3⟩⟩
          rw [cs1, cs2] at this
          exact this
      · have hz : hdP σ i = false := decide_eq_false z
        rw [decide_eq_false z, bz_ff, if_pos rfl]
        rw [hz] at cs1 cs2
        rw [Bool.false_and, if_neg Bool.false_ne_true, Int.add_zero] at cs2
        rw [if_neg Bool.false_ne_true, Int.add_zero] at cs1
        have := ih (i + 1) s0 τ (by omega) (by omega) K fun a a0 a1 => (hs a a0 a1).trans ⟨fun ⟨j, j0, j1, q⟩ => ⟨j, j0, by omega, q⟩, fun ⟨j, j0, j1, q1, q2, q3⟩ => by
          by_cases ji : j = i
          · subst ji; rw [hz] at q1; cases q1
          · exact ⟨j, j0, by omega, q1, q2, q3⟩⟩
        rw [cs1, cs2] at this
        exact this
  exact loop (rd σ p 0).toNat 0 (zI 0) σ (by omega) (by decide) (Fr.rf _ _) fun y y0 y1 => by
    rw [gb_0]
    exact ⟨fun q => absurd q Bool.false_ne_true, fun ⟨j, j0, j1, _⟩ => by omega⟩
theorem c_houses {σ : Sg} {r p l : Nat} (h : Inv r p l σ) (w : Int32) : Same (f_N_houses 100 w) (f_M_houses 100 w) σ := by
  obtain ⟨w, rfl, hw⟩ := zI_ex w
  have hP := h.1.2.1
  have q3 : σ.2.2 4 3 = p := h.1.2.2.2.2.2.1
  obtain ⟨m0, m24, -⟩ := h.2.2.2.1.1
  have em : σ.1 p 0 = zI (rd σ p 0) := rd_k σ p 0
  have iM := in_sp (σ := σ) (d := 98) (a := w) (b := 0) (c := 2) hw (by decide) (by decide)
  have k0 : (zI w = zI 0) = (w = 0) := zI_eq hw (by decide)
  have k1 : (zI w = zI 1) = (w = 1) := zI_eq hw (by decide)
  have k2 : (zI w = zI 2) = (w = 2) := zI_eq hw (by decide)
  obtain ⟨s, s1, s2⟩ := wrongOnes_sp (σ := σ) (d := 98) m0 m24
  have sN : f_N_houses 100 (zI w) σ = if w = 0 then rI (zI (cnt (hdP σ) (rd σ p 0).toNat)) σ else if w = 1 then rI (zI (cnt (fun x => hdP σ x && wrP σ x) (rd σ p 0).toNat)) σ else if w = 2 then rI s σ else rI (-1) σ := by
    rw [f_N_houses_eq, q3, gfI_of hP.s0, gfI_of hP.s0, gfI_of hP.s0, em, zI_0, show (1 : Int32) = zI 1 from zI_lit 1, show (2 : Int32) = zI 2 from zI_lit 2, manyH_sp m0 m24 (Or.inl rfl), manyH_sp m0 m24 (Or.inr rfl), s1, cI_rI, cI_rI, cI_rI]
    simp only [k0, k1, k2, decide_true, show decide ((1 : Int) = 0) = false from rfl, Bool.true_or, Bool.and_true, Bool.false_or, zI_neg]
  by_cases q : 0 ≤ w ∧ w ≤ 2
  · obtain ⟨τ, t, t1, t2, t3⟩ := housesM_sp h (d := 90) q
    have st : s = t := gb_ext fun y y0 y1 => by
      rw [Bool.eq_iff_iff, s2 y y0 y1, t3 y y0 y1, Bool.and_eq_true, decide_eq_true_eq]
      constructor
      · rintro ⟨y2, y3⟩
        obtain ⟨⟨a, b⟩, c, e, -⟩ := h.mb y0 y2
        obtain ⟨⟨a', b'⟩, c', e', -⟩ := h.mb a (by omega)
        have idm : rd σ 77 (rd σ 77 y) = rd σ 77 y := by
          have := e _ a' (by omega) (c.tr c')
          omega
        refine ⟨rd σ 77 y, a, by omega, decide_eq_true idm, decide_eq_true ?_, y2, c.sy⟩
        exact (mb_zero_mv h y0 y2 a (by omega) c).mp (of_decide_eq_true y3)
      · rintro ⟨i, i0, i1, i2, i3, y2, hy⟩
        exact ⟨y2, decide_eq_true ((mb_zero_mv h i0 i1 y0 y2 hy).mp (of_decide_eq_true i3))⟩
    have sM : f_M_houses 100 (zI w) σ = rI (if w = 0 then zI (cnt (hdP σ) (rd σ p 0).toNat) else if w = 1 then zI (cnt (fun x => hdP σ x && wrP σ x) (rd σ p 0).toNat) else t) τ := by
      rw [f_M_houses_eq, zI_0, show (2 : Int32) = zI 2 from zI_lit 2, iM, cI_rI, decide_eq_true q, bz_tt, if_neg (by decide)]
      exact t1
    refine ⟨_, σ, τ, r, p, l, ?_, sM, S152_scr h t2⟩
    rw [sN, st]
    by_cases z0 : w = 0
    · rw [if_pos z0, if_pos z0]
    · rw [if_neg z0, if_neg z0]
      by_cases z1 : w = 1
      · rw [if_pos z1, if_pos z1]
      · rw [if_neg z1, if_neg z1, if_pos (by omega)]
  · refine ⟨-1, σ, σ, r, p, l, ?_, ?_, h⟩
    · rw [sN, if_neg (by omega), if_neg (by omega), if_neg (by omega)]
    · rw [f_M_houses_eq, zI_0, show (2 : Int32) = zI 2 from zI_lit 2, iM, cI_rI, decide_eq_false q, bz_ff, if_pos rfl]
