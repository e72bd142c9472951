/-! what one may be, in the reference -/
theorem Cs.mv {n m : Int} {W H M S F G D g : Int → Int} {h x : Int} (hx : Hs m F G D h x) (c : Cs n m W H M S F G D h g) : Cs n m W H M S F G D x g := fun p p0 p1 q => c p p0 p1 (hx.tr q)
theorem mismatched_sp {r p0 : Nat} {n m : Int} {W H C M S T F G D : Int → Int} {τ : Sg} (hx : HX r p0 n m W H C M S T F G D τ) {d : Nat} {h : Int} {g : Int → Int} (hg : ∀ y, 0 ≤ y → y < m → τ.1 152 y.toNat = zI (g y) ∧ -1 ≤ g y ∧ g y < n) {u : Int32} (hu : ∀ y, 0 ≤ y → y < 32 → (gb u y = true ↔ y < m ∧ Hs m F G D h y)) : ∃ s, f_M_mismatched (d + 2) u τ = rI s τ ∧ Off m T F G D h g s := by
  obtain ⟨rl, rm, e69, m0, m24⟩ := hx.rl
  have n6 := hx.nm.2.1.2
  rw [f_M_mismatched_eq, zI_0]
  obtain ⟨s, a1, a2⟩ := setloop (n := m) (F := fun i s => f_M_mismatched_4 (d + 1) u s (zI i) τ) (P := fun i => gb u i && decide (0 ≤ T i ∧ T i ≠ g i)) (σ := τ) (fun i s i0 i1 => by
    show f_M_mismatched_4 _ _ _ _ _ = f_M_mismatched_4 _ _ _ _ _
    obtain ⟨-, ⟨t0, t1, t2⟩, -⟩ := rl.bd n6 i0 i1
    obtain ⟨-, e43, -⟩ := rm.2 i i0 i1
    obtain ⟨g1, g2, g3⟩ := hg i i0 i1
    rw [f_M_mismatched_4_eq, e69, if_pos (by rw [zI_le (by omega) (by omega)]; exact i1), hasM_sp ⟨i0, by omega⟩, cI_rI, bnd_zI i0 (by omega) (by omega), bnd_zI i0 (by omega) (by omega), bnd_zI i0 (by omega) (by omega), ix_zI i0 (by omega), e43, g1, show (-1 : Int32) = zI (-1) from rfl, show (1 : Int32) = zI 1 from zI_lit 1, show (31 : Int32) = zI 31 from zI_lit 31, zI_add, zI_0]
    cases q : gb u i with
    | false => rw [bz_ff, if_pos rfl, Bool.false_and, if_neg Bool.false_ne_true]
    | true =>
      rw [bz_tt, if_neg (by decide), Bool.true_and]
      by_cases z : T i = -1
      · rw [if_pos (congrArg zI z), if_neg (by simp; omega)]
      · rw [if_neg (by rw [zI_eq (by omega) (by decide)]; exact z)]
        by_cases w : T i = g i
        · rw [if_pos (congrArg zI w), if_neg (by simp; omega)]
        · rw [if_neg (by rw [zI_eq (by omega) (by omega)]; exact w), if_pos (decide_eq_true ⟨by omega, w⟩)]) (fun s => by
    show f_M_mismatched_4 _ _ _ _ _ = _
    rw [f_M_mismatched_4_eq, e69, if_neg Int32.lt_irrefl]) m0 (by omega)
  refine ⟨s, a1, fun y y0 y1 => ?_⟩
  rw [a2 y y0 y1, Bool.and_eq_true, Bool.and_eq_true, decide_eq_true_eq, decide_eq_true_eq, hu y y0 y1]
  exact ⟨fun q => ⟨q.1, q.2.1.2, q.2.2⟩, fun q => ⟨q.1, ⟨q.1, q.2.1⟩, q.2.2⟩⟩
/-- may be a name -/
def MBe (n m : Int) (W H M S T F G D : Int → Int) (x y : Int) : Prop := y < n ∧ ∃ g, Cs n m W H M S F G D x g ∧ g x = y ∧ ∀ z, 0 ≤ z → z < m → Hs m F G D x z → 0 ≤ T z → T z = g z
theorem Off.none {m : Int} {T F G D g : Int → Int} {h : Int} {s : Int32} (o : Off m T F G D h g s) (m24 : m ≤ 24) : s = zI 0 ↔ ∀ z, 0 ≤ z → z < m → Hs m F G D h z → 0 ≤ T z → T z = g z := by
  constructor
  · intro e z z0 z1 hz t0
    rcases Classical.em (T z = g z) with q | q
    · exact q
    · have := (o z z0 (by omega)).mpr ⟨z1, hz, t0, q⟩
      rw [e, gb_0] at this; cases this
  · intro a
    refine gb_ext fun y y0 y1 => ?_
    rw [gb_0]
    cases q : gb s y with
    | false => rfl
    | true =>
      obtain ⟨b1, b2, b3, b4⟩ := (o y y0 y1).mp q
      exact absurd (a y y0 b1 b2 b3) b4
theorem mayBe_sp {r p0 : Nat} {n m : Int} {W H C M S T F G D : Int → Int} {σ : Sg} (hx : HX r p0 n m W H C M S T F G D σ) {d : Nat} {x h : Int} (x0 : 0 ≤ x) (x1 : x < m) (h0 : 0 ≤ h) (h1 : h < m) (hh : Hs m F G D x h) (hl : ∀ y, 0 ≤ y → y < m → Hs m F G D x y → h ≤ y) : ∃ τ' u, f_M_mayBe (d + 8) (zI x) σ = rI u τ' ∧ Fr S152 σ τ' ∧ ∀ y, 0 ≤ y → y < 32 → (gb u y = true ↔ MBe n m W H M S T F G D x y) := by
  obtain ⟨rl, rm, e69, m0, m24⟩ := hx.rl
  obtain ⟨nm, ⟨n0, n6⟩, mr, e5⟩ := hx.nm
  obtain ⟨hs, c1, c2⟩ := houseOf_sp hx (d := d + 4) x0 x1
  have lo := fun τ => lowestM_sp (σ := τ) (d := d + 5) (s := hs) (k := h) ((c2 h h0 (by omega)).mpr ⟨h1, hh⟩) ⟨h0, by omega⟩ fun j j0 j1 => by
    cases q : gb hs j with
    | false => rfl
    | true =>
      have := (c2 j j0 (by omega)).mp q
      have := hl j j0 this.1 this.2
      omega
  have c2h : ∀ y, 0 ≤ y → y < 32 → (gb hs y = true ↔ y < m ∧ Hs m F G D h y) := fun y y0 y1 => by
    rw [c2 y y0 y1]
    exact ⟨fun q => ⟨q.1, hh.sy.tr q.2⟩, fun q => ⟨q.1, hh.tr q.2⟩⟩
  have loop : ∀ (k : Nat) (i : Int) (t : Int32) (τ : Sg), i + k = n → 0 ≤ i → Fr S152 σ τ → (∀ y, 0 ≤ y → y < 32 → (gb t y = true ↔ ∃ j, 0 ≤ j ∧ j < i ∧ ∃ g, Cs n m W H M S F G D h g ∧ g h = j ∧ g x = y ∧ ∀ z, 0 ≤ z → z < m → Hs m F G D h z → 0 ≤ T z → T z = g z)) → ∃ τ' u, f_M_mayBe_11 (d + 7) (zI x) hs t (zI i) τ = rI u τ' ∧ Fr S152 σ τ' ∧ ∀ y, 0 ≤ y → y < 32 → (gb u y = true ↔ ∃ j, 0 ≤ j ∧ j < n ∧ ∃ g, Cs n m W H M S F G D h g ∧ g h = j ∧ g x = y ∧ ∀ z, 0 ≤ z → z < m → Hs m F G D h z → 0 ≤ T z → T z = g z) := by
    intro k
    induction k with
    | zero =>
      intro i t τ hi i0 K ht
      have : i = n := by omega
      subst this
      exact ⟨τ, t, by rw [f_M_mayBe_11_eq, (hx.f152 K).nm.2.2.2, if_neg Int32.lt_irrefl], K, ht⟩
    | succ k ih =>
      intro i t τ hi i0 K ht
      have i1 : i < n := by omega
      obtain ⟨τ1, b, g, d1, K1, d2, d3, d4⟩ := canBeBy_sp (hx.f152 K) (d := d + 1) h0 h1 i0 i1
      have hx1 := (hx.f152 K).f152 K1
      obtain ⟨s, m1, m2⟩ := mismatched_sp hx1 (d := d + 5) (h := h) d2 c2h
      have sn := m2.none m24
      have hd : f_M_mayBe_11 (d + 7) (zI x) hs t (zI i) τ = if bz b = zI 0 then f_M_mayBe_11 (d + 7) (zI x) hs t (zI (i + 1)) τ1 else if s = zI 0 then f_M_mayBe_11 (d + 7) (zI x) hs (t ||| (zI 1 <<< (zI (g x) &&& zI 31))) (zI (i + 1)) τ1 else f_M_mayBe_11 (d + 7) (zI x) hs t (zI (i + 1)) τ1 := by
        rw [f_M_mayBe_11_eq, (hx.f152 K).nm.2.2.2, if_pos (by rw [zI_le (by omega) (by omega)]; exact i1), lo τ, cI_rI, d1, cI_rI, m1, cI_rI, bnd_zI x0 (by omega) (by omega), ix_zI x0 (by omega), (d2 x x0 x1).1, zI_0, show (1 : Int32) = zI 1 from zI_lit 1, show (31 : Int32) = zI 31 from zI_lit 31, zI_add]
      rw [hd]
      cases b with
      | false =>
        have no := d4 rfl
        rw [bz_ff, if_pos rfl]
        refine ih (i + 1) t τ1 (by omega) (by omega) (K.tr K1) fun y y0 y1 => (ht y y0 y1).trans ⟨fun ⟨j, j0, j1, q⟩ => ⟨j, j0, by omega, q⟩, fun ⟨j, j0, j1, g', q1, q2, q3⟩ => ?_⟩
        by_cases z : j = i
        · subst z; exact absurd ⟨g', q1, q2⟩ no
        · exact ⟨j, j0, by omega, g', q1, q2, q3⟩
      | true =>
        obtain ⟨cg, gh, un⟩ := d3 rfl
        rw [bz_tt, if_neg (by decide)]
        have eqg : ∀ g', Cs n m W H M S F G D h g' → g' h = i → ∀ y, 0 ≤ y → y < m → Hs m F G D h y → g' y = g y := un
        by_cases w : s = zI 0
        · have ag := sn.mp w
          rw [if_pos w]
          have gx := (cg x x0 x1 hh.sy)
          refine ih (i + 1) _ τ1 (by omega) (by omega) (K.tr K1) fun y y0 y1 => ?_
          rw [gb_or, Bool.or_eq_true, ht y y0 y1, gb_sh gx.1 (by omega) y0 y1, decide_eq_true_eq]
          constructor
          · rintro (⟨j, j0, j1, q⟩ | e)
            · exact ⟨j, j0, by omega, q⟩
            · exact ⟨i, i0, by omega, g, cg, gh, e.symm, ag⟩
          · rintro ⟨j, j0, j1, g', q1, q2, q3, q4⟩
            by_cases z : j = i
            · subst z
              exact Or.inr (q3.symm.trans (eqg g' q1 q2 x x0 x1 hh.sy))
            · exact Or.inl ⟨j, j0, by omega, g', q1, q2, q3, q4⟩
        · rw [if_neg w]
          refine ih (i + 1) t τ1 (by omega) (by omega) (K.tr K1) fun y y0 y1 => (ht y y0 y1).trans ⟨fun ⟨j, j0, j1, q⟩ => ⟨j, j0, by omega, q⟩, fun ⟨j, j0, j1, g', q1, q2, q3, q4⟩ => ?_⟩
          by_cases z : j = i
          · subst z
            exact absurd (sn.mpr fun a a0 a1 ha ta => (q4 a a0 a1 ha ta).trans (eqg g' q1 q2 a a0 a1 ha)) w
          · exact ⟨j, j0, by omega, g', q1, q2, q3, q4⟩
  obtain ⟨τ', u, a1, a2, a3⟩ := loop n.toNat 0 (zI 0) σ (by omega) (by decide) (Fr.rf _ _) fun y y0 y1 => by
    rw [gb_0]
    exact ⟨fun q => absurd q Bool.false_ne_true, fun ⟨j, j0, j1, _⟩ => by omega⟩
  refine ⟨τ', u, ?_, a2, fun y y0 y1 => (a3 y y0 y1).trans ⟨fun ⟨j, j0, j1, g, q1, q2, q3, q4⟩ => ?_, fun ⟨y2, g, q1, q2, q3⟩ => ?_⟩⟩
  · rw [f_M_mayBe_eq, c1, cI_rI, zI_0]; exact a1
  · have gx := q1 x x0 x1 hh.sy
    exact ⟨by omega, g, q1.mv hh.sy, q3, fun z z0 z1 hz t0 => q4 z z0 z1 (hh.sy.tr hz) t0⟩
  · have gh := q1 h h0 h1 hh
    exact ⟨g h, gh.1, gh.2.1, g, q1.mv hh, rfl, q2, fun z z0 z1 hz t0 => q3 z z0 z1 (hh.tr hz) t0⟩
theorem Inv.hx {r p l : Nat} {σ : Sg} (h : Inv r p l σ) : HX r p (rd σ r 0) (rd σ p 0) (rd σ (r + 1)) (rd σ (r + 2)) (rd σ (r + 3)) (rd σ (r + 4)) (rd σ (p + 1)) (rd σ (p + 2)) (rd σ (p + 3)) (rd σ (p + 4)) (rd σ (p + 5)) σ := HX.mk h.1.2.1 h.2.2.2.1 h.2.2.1
theorem S152_scr {r p l : Nat} {σ τ : Sg} (h : Inv r p l σ) (K : Fr S152 σ τ) : Inv r p l τ := by
  have hb := h.bits
  refine h.scr K ?_ ?_ (by rcases hb.2.2 with rfl | rfl <;> rfl) (by rcases hb.2.2 with rfl | rfl <;> repeat (first | exact trivial | refine ⟨fun _ => rfl, ?_⟩ | refine ⟨rfl, ?_⟩)) ?_ ⟨rfl, rfl⟩
  · repeat (first | exact trivial | refine ⟨fun _ => rfl, ?_⟩ | refine ⟨rfl, ?_⟩)
  · repeat (first | exact trivial | refine ⟨fun _ => rfl, ?_⟩ | refine ⟨rfl, ?_⟩)
  · repeat (first | exact trivial | refine ⟨fun _ => rfl, ?_⟩ | refine ⟨rfl, ?_⟩)
/-- what the class knows: what one may be -/
theorem Inv.mb {r p l : Nat} {σ : Sg} (h : Inv r p l σ) {x : Int} (x0 : 0 ≤ x) (x1 : x < rd σ p 0) : (0 ≤ rd σ 77 x ∧ rd σ 77 x ≤ x) ∧ Hs (rd σ p 0) (rd σ (p + 3)) (rd σ (p + 4)) (rd σ (p + 5)) x (rd σ 77 x) ∧ (∀ y, 0 ≤ y → y < rd σ p 0 → Hs (rd σ p 0) (rd σ (p + 3)) (rd σ (p + 4)) (rd σ (p + 5)) x y → rd σ 77 x ≤ y) ∧ ∀ y, 0 ≤ y → y < 32 → (gb (σ.1 76 x.toNat) y = true ↔ MBe (rd σ r 0) (rd σ p 0) (rd σ (r + 1)) (rd σ (r + 2)) (rd σ (r + 4)) (rd σ (p + 1)) (rd σ (p + 2)) (rd σ (p + 3)) (rd σ (p + 4)) (rd σ (p + 5)) x y) := by
  obtain ⟨a, b, c, e, f⟩ := h.2.2.2.2.2.1.1 x x0 x1
  exact ⟨⟨a, b⟩, c, e, f⟩
/-- both know the same -/
theorem mayBe_at {r p l : Nat} {σ : Sg} (h : Inv r p l σ) {d : Nat} {x : Int} (x0 : 0 ≤ x) (x1 : x < rd σ p 0) : ∃ τ', f_M_mayBe (d + 8) (zI x) σ = rI (σ.1 76 x.toNat) τ' ∧ Fr S152 σ τ' := by
  obtain ⟨⟨a, b⟩, c, e, f⟩ := h.mb x0 x1
  obtain ⟨τ', u, a1, a2, a3⟩ := mayBe_sp h.hx (d := d) x0 x1 a (by omega) c e
  refine ⟨τ', ?_, a2⟩
  rw [a1, show u = σ.1 76 x.toNat from gb_ext fun y y0 y1 => by rw [Bool.eq_iff_iff, a3 y y0 y1, f y y0 y1]]
