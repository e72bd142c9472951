/-! houses in the reference -/
theorem Hs.rf (m : Int) (F G D : Int → Int) (x : Int) : Hs m F G D x x := fun _ h _ => h
theorem Hs.tr {m : Int} {F G D : Int → Int} {a b c : Int} (h : Hs m F G D a b) (h' : Hs m F G D b c) : Hs m F G D a c := fun K k e => h' K (h K k e) e
theorem Hs.sy {m : Int} {F G D : Int → Int} {a b : Int} (h : Hs m F G D a b) : Hs m F G D b a := fun K k e => by
  have := h (fun z => K z → K a) id fun p p0 p1 => by
    obtain ⟨e1, e2, e3⟩ := e p p0 p1
    exact ⟨fun q => ⟨fun f z => f ((e1 q).mpr z), fun f z => f ((e1 q).mp z)⟩, fun q => ⟨fun f z => f ((e2 q).mpr z), fun f z => f ((e2 q).mp z)⟩, fun q => ⟨fun f z => f ((e3 q).mpr z), fun f z => f ((e3 q).mp z)⟩⟩
  exact this k
theorem Hs.f {m : Int} {F G D : Int → Int} {p : Int} (p0 : 0 ≤ p) (p1 : p < m) (q : 0 ≤ F p) : Hs m F G D p (F p) := fun _ k e => ((e p p0 p1).1 q).mp k
theorem Hs.g {m : Int} {F G D : Int → Int} {p : Int} (p0 : 0 ≤ p) (p1 : p < m) (q : 0 ≤ G p) : Hs m F G D p (G p) := fun _ k e => ((e p p0 p1).2.1 q).mp k
theorem Hs.d {m : Int} {F G D : Int → Int} {p : Int} (p0 : 0 ≤ p) (p1 : p < m) (q : 0 ≤ D p) : Hs m F G D p (D p) := fun _ k e => ((e p p0 p1).2.2 q).mp k
def HX (r p : Nat) (n m : Int) (W H C M S T F G D : Int → Int) (σ : Sg) : Prop := isP p ∧ IRoll r p σ ∧ IRule r σ ∧ (rd σ r 0 = n ∧ rd σ p 0 = m) ∧ (rd σ (r + 1) = W ∧ rd σ (r + 2) = H ∧ rd σ (r + 3) = C ∧ rd σ (r + 4) = M) ∧ rd σ (p + 1) = S ∧ rd σ (p + 2) = T ∧ rd σ (p + 3) = F ∧ rd σ (p + 4) = G ∧ rd σ (p + 5) = D
theorem HX.mk {r p : Nat} {σ : Sg} (hp : isP p) (h : IRoll r p σ) (h' : IRule r σ) : HX r p (rd σ r 0) (rd σ p 0) (rd σ (r + 1)) (rd σ (r + 2)) (rd σ (r + 3)) (rd σ (r + 4)) (rd σ (p + 1)) (rd σ (p + 2)) (rd σ (p + 3)) (rd σ (p + 4)) (rd σ (p + 5)) σ := ⟨hp, h, h', ⟨rfl, rfl⟩, ⟨rfl, rfl, rfl, rfl⟩, rfl, rfl, rfl, rfl, rfl⟩
theorem HX.fr {S' : Nat → Nat → Bool} {r p : Nat} {n m : Int} {W H C M S T F G D : Int → Int} {σ σ' : Sg} (h : HX r p n m W H C M S T F G D σ) (K : Fr S' σ σ') (h1 : ∀ a k, DRoll r p a k = true → S' a k = false) (h2 : ∀ a k, DRule r a k = true → S' a k = false) : HX r p n m W H C M S T F G D σ' := by
  obtain ⟨a1, a2, a3, ⟨a4, a5⟩, ⟨b1, b2, b3, b4⟩, c1, c2, c3, c4, c5⟩ := h
  have eR : ∀ a, (∀ k, DRule r a k = true) → rd σ' a = rd σ a := fun a q => fr_row K fun k => h2 a k (q k)
  have eP : ∀ a, (∀ k, DRoll r p a k = true) → rd σ' a = rd σ a := fun a q => fr_row K fun k => h1 a k (q k)
  refine ⟨a1, a2.fr K h1, a3.fr K h2, ⟨by rw [← a4]; exact fr_rd K (h2 _ _ (by simp [DRule])), by rw [← a5]; exact fr_rd K (h1 _ _ (by simp [DRoll]))⟩, ⟨?_, ?_, ?_, ?_⟩, ?_, ?_, ?_, ?_, ?_⟩
  · rw [← b1]; exact eR _ fun k => by simp [DRule]
  · rw [← b2]; exact eR _ fun k => by simp [DRule]
  · rw [← b3]; exact eR _ fun k => by simp [DRule]
  · rw [← b4]; exact eR _ fun k => by simp [DRule]
  · rw [← c1]; exact eP _ fun k => by simp [DRoll]
  · rw [← c2]; exact eP _ fun k => by simp [DRoll]
  · rw [← c3]; exact eP _ fun k => by simp [DRoll]
  · rw [← c4]; exact eP _ fun k => by simp [DRoll]
  · rw [← c5]; exact eP _ fun k => by simp [DRoll]
theorem HX.nm {r p : Nat} {n m : Int} {W H C M S T F G D : Int → Int} {σ : Sg} (h : HX r p n m W H C M S T F G D σ) : NmOk n W H C M ∧ (0 ≤ n ∧ n ≤ 6) ∧ MR4 σ n W H C M ∧ σ.1 102 5 = zI n := by
  obtain ⟨a1, a2, a3, ⟨rfl, rfl⟩, ⟨rfl, rfl, rfl, rfl⟩, rfl, rfl, rfl, rfl, rfl⟩ := h
  have := a3.1.2.2.1
  exact ⟨a3.1.2.2, ⟨by have := a3.2.1; omega, a3.1.2.2.1⟩, a3.mr4, by rw [rd_k]; exact congrArg zI a3.2.2.1⟩
theorem HX.rl {r p : Nat} {n m : Int} {W H C M S T F G D : Int → Int} {σ : Sg} (h : HX r p n m W H C M S T F G D σ) : RlOk n m S T F G D ∧ RoM σ m S T F G D ∧ σ.1 102 69 = zI m ∧ 0 ≤ m ∧ m ≤ 24 := by
  obtain ⟨a1, a2, a3, ⟨rfl, rfl⟩, ⟨rfl, rfl, rfl, rfl⟩, rfl, rfl, rfl, rfl, rfl⟩ := h
  exact ⟨a2.1, a2.m, by rw [rd_k]; exact congrArg zI a2.2.1, a2.1.1, a2.1.2.1⟩
theorem HX.ch {r p : Nat} {n m : Int} {W H C M S T F G D : Int → Int} {σ : Sg} (h : HX r p n m W H C M S T F G D σ) {d : Nat} {x : Int} (x0 : 0 ≤ x) (x1 : x < m) : ∃ u, f_M_childrenOf (d + 1) (zI x) σ = rI u σ ∧ ∀ y, 0 ≤ y → y < 32 → (gb u y = true ↔ y < m ∧ (F y = x ∨ G y = x)) := by
  obtain ⟨a1, a2, a3, ⟨rfl, rfl⟩, ⟨rfl, rfl, rfl, rfl⟩, rfl, rfl, rfl, rfl, rfl⟩ := h
  refine ⟨_, childrenOf_sp a2 a3.1.2.2.1 x0 x1, fun y y0 y1 => ?_⟩
  rw [(a2.2.2.2.1 x y x0 x1 y0 y1).1, decide_eq_true_eq]
theorem cnt_lt {p q : Int → Bool} {k : Nat} (h : ∀ y : Int, 0 ≤ y → y < k → p y = true → q y = true) {z : Int} (z0 : 0 ≤ z) (z1 : z < k) (hq : q z = true) (hp : p z = false) : cnt p k < cnt q k := by
  rw [sm_cnt, sm_cnt]
  have le := sm_le (f := fun x => if p x = true then 1 else 0) (g := fun x => if q x = true then 1 else 0) (k := k) fun i i0 i1 => by
    cases e : p i with
    | false => simp; split <;> omega
    | true => rw [h i i0 i1 e]; simp
  rcases Int.lt_or_le (sm (fun x => if p x = true then 1 else 0) k) (sm (fun x => if q x = true then 1 else 0) k) with y | y
  · exact y
  · have := le.2 (by omega) z z0 z1
    rw [hq, hp] at this
    simp at this
theorem houseOf_sp {r p : Nat} {n m : Int} {W H C M S T F G D : Int → Int} {σ : Sg} (h : HX r p n m W H C M S T F G D σ) {d : Nat} {x : Int} (x0 : 0 ≤ x) (x1 : x < m) : ∃ u, f_M_houseOf (d + 3) (zI x) σ = rI u σ ∧ ∀ y, 0 ≤ y → y < 32 → (gb u y = true ↔ y < m ∧ Hs m F G D x y) := by
  obtain ⟨rl, rm, e69, m0, m24⟩ := h.rl
  have n6 := h.nm.2.1.2
  have pass : ∀ (k : Nat) (e : Int) (s b : Int32) (v1 : Value), e + k = m → 0 ≤ e → ∃ t v2, f_M_houseOf_16 (d + 2) v1 s b (zI e) σ = f_M_houseOf_6 (d + 2) v2 t b (.int (zI m)) σ ∧ ∀ y, 0 ≤ y → y < 32 → (gb t y = true ↔ gb s y = true ∨ ∃ i, e ≤ i ∧ i < m ∧ gb b i = true ∧ (y = F i ∨ y = G i ∨ y = D i ∨ y < m ∧ (F y = i ∨ G y = i))) := by
    intro k
    induction k with
    | zero =>
      intro e s b v1 he e0
      have : e = m := by omega
      subst this
      refine ⟨s, v1, by rw [f_M_houseOf_16_eq, e69, if_neg Int32.lt_irrefl], fun y y0 y1 => ⟨Or.inl, ?_⟩⟩
      rintro (q | ⟨i, i0, i1, -⟩)
      · exact q
      · omega
    | succ k ih =>
      intro e s b v1 he e0
      have e1 : e < m := by omega
      obtain ⟨-, -, ⟨f0, f1, f2⟩, ⟨g0, g1, g2⟩, d0, d1, d2⟩ := rl.bd n6 e0 e1
      obtain ⟨-, -, c3, c4, c5⟩ := rm.2 e e0 e1
      obtain ⟨cs, ch1, ch2⟩ := h.ch (d := d + 1) e0 e1
      have hd : f_M_houseOf_16 (d + 2) v1 s b (zI e) σ = if bz (gb b e) = zI 0 then f_M_houseOf_16 (d + 2) v1 s b (zI (e + 1)) σ else f_M_houseOf_16 (d + 2) (nlg v1) ((((s ||| bitF (F e)) ||| bitF (G e)) ||| bitF (D e)) ||| cs) b (zI (e + 1)) σ := by
        rw [f_M_houseOf_16_eq, e69, if_pos (by rw [zI_le (by omega) (by omega)]; exact e1), hasM_sp ⟨e0, by omega⟩, cI_rI, bnd_zI e0 (by omega) (by omega), ix_zI e0 (by omega), c3, bitM_sp ⟨f0, by omega⟩, cI_rI, bnd_zI e0 (by omega) (by omega), c4, bitM_sp ⟨g0, by omega⟩, cI_rI, bnd_zI e0 (by omega) (by omega), c5, bitM_sp ⟨d0, by omega⟩, cI_rI, ch1, cI_rI, zI_0, show (1 : Int32) = zI 1 from zI_lit 1, zI_add]
      rw [hd]
      cases q : gb b e with
      | false =>
        rw [bz_ff, if_pos rfl]
        obtain ⟨t, v2, a1, a2⟩ := ih (e + 1) s b v1 (by omega) (by omega)
        refine ⟨t, v2, a1, fun y y0 y1 => (a2 y y0 y1).trans ⟨?_, ?_⟩⟩
        · rintro (z | ⟨i, i0, i1, i2⟩)
          · exact Or.inl z
          · exact Or.inr ⟨i, by omega, i1, i2⟩
        · rintro (z | ⟨i, i0, i1, i2, i3⟩)
          · exact Or.inl z
          · by_cases ie : i = e
            · subst ie; rw [q] at i2; cases i2
            · exact Or.inr ⟨i, by omega, i1, i2, i3⟩
      | true =>
        rw [bz_tt, if_neg (by decide)]
        obtain ⟨t, v2, a1, a2⟩ := ih (e + 1) ((((s ||| bitF (F e)) ||| bitF (G e)) ||| bitF (D e)) ||| cs) b (nlg v1) (by omega) (by omega)
        refine ⟨t, v2, a1, fun y y0 y1 => (a2 y y0 y1).trans ?_⟩
        rw [gb_or, gb_or, gb_or, gb_or, Bool.or_eq_true, Bool.or_eq_true, Bool.or_eq_true, Bool.or_eq_true, gb_bitF (by omega) y0 y1, gb_bitF (by omega) y0 y1, gb_bitF (by omega) y0 y1, ch2 y y0 y1, decide_eq_true_eq, decide_eq_true_eq, decide_eq_true_eq]
        constructor
        · rintro (((((z | z) | z) | z) | z) | ⟨i, i0, i1, i2⟩)
          · exact Or.inl z
          · exact Or.inr ⟨e, Int.le_refl _, e1, q, Or.inl z⟩
          · exact Or.inr ⟨e, Int.le_refl _, e1, q, Or.inr (Or.inl z)⟩
          · exact Or.inr ⟨e, Int.le_refl _, e1, q, Or.inr (Or.inr (Or.inl z))⟩
          · exact Or.inr ⟨e, Int.le_refl _, e1, q, Or.inr (Or.inr (Or.inr z))⟩
          · exact Or.inr ⟨i, by omega, i1, i2⟩
        · rintro (z | ⟨i, i0, i1, i2, i3⟩)
          · exact Or.inl (Or.inl (Or.inl (Or.inl (Or.inl z))))
          · by_cases ie : i = e
            · subst ie
              rcases i3 with z | z | z | z
              · exact Or.inl (Or.inl (Or.inl (Or.inl (Or.inr z))))
              · exact Or.inl (Or.inl (Or.inl (Or.inr z)))
              · exact Or.inl (Or.inl (Or.inr z))
              · exact Or.inl (Or.inr z)
            · exact Or.inr ⟨i, by omega, i1, i2, i3⟩
  have rel : ∀ i y, 0 ≤ i → i < m → 0 ≤ y → (y = F i ∨ y = G i ∨ y = D i ∨ y < m ∧ (F y = i ∨ G y = i)) → y < m ∧ Hs m F G D i y := fun i y i0 i1 y0 q => by
    obtain ⟨-, -, ⟨f0, f1, f2⟩, ⟨g0, g1, g2⟩, d0, d1, d2⟩ := rl.bd n6 i0 i1
    rcases q with rfl | rfl | rfl | ⟨y1, rfl | rfl⟩
    · exact ⟨f1, Hs.f i0 i1 y0⟩
    · exact ⟨g1, Hs.g i0 i1 y0⟩
    · exact ⟨d1, Hs.d i0 i1 y0⟩
    · exact ⟨y1, (Hs.f y0 y1 i0).sy⟩
    · exact ⟨y1, (Hs.g y0 y1 i0).sy⟩
  have rounds : ∀ (k : Nat) (s b : Int32) (v1 v2 : Value), 24 ≤ cnt (gb s) 24 + k → gb s x = true → s ≠ b → (∀ y, 0 ≤ y → y < 32 → gb s y = true → y < m ∧ Hs m F G D x y) → ∃ u, f_M_houseOf_6 (d + 2) v1 s b v2 σ = rI u σ ∧ ∀ y, 0 ≤ y → y < 32 → (gb u y = true ↔ y < m ∧ Hs m F G D x y) := by
    intro k
    induction k with
    | zero =>
      intro s b v1 v2 hk sx sb hs
      -- all are in
      obtain ⟨t, v3, a1, a2⟩ := pass m.toNat 0 s s v1 (by omega) (by decide)
      have cl : t = s := gb_ext fun y y0 y1 => by
        cases q : gb s y with
        | true => exact (a2 y y0 y1).mpr (Or.inl q)
        | false =>
          by_cases y24 : y < 24
          · exfalso
            have := cnt_lt (p := gb s) (q := fun _ => true) (k := 24) (fun _ _ _ _ => rfl) y0 y24 rfl q
            have := (cnt_nn (fun _ => true) 24).2
            omega
          · cases z : gb t y with
            | false => rfl
            | true =>
              rcases (a2 y y0 y1).mp z with z | ⟨i, i0, i1, i2, i3⟩
              · rw [q] at z; cases z
              · have := (rel i y i0 i1 y0 i3).1; omega
      refine ⟨s, ?_, fun y y0 y1 => ⟨hs y y0 y1, fun ⟨y2, q⟩ => ?_⟩⟩
      · rw [f_M_houseOf_6_eq, if_neg sb, zI_0, a1, cl, f_M_houseOf_6_eq, if_pos rfl]
      · have := q (fun z => 0 ≤ z → z < m → gb s z = true) (fun _ _ => sx) fun i i0 i1 => by
          obtain ⟨-, -, ⟨f0, f1, f2⟩, ⟨g0, g1, g2⟩, d0, d1, d2⟩ := rl.bd n6 i0 i1
          have inn : ∀ a z, 0 ≤ a → a < m → 0 ≤ z → z < m → (z = F a ∨ z = G a ∨ z = D a ∨ z < m ∧ (F z = a ∨ G z = a)) → gb s a = true → gb s z = true := fun a z a0 a1' z0 z1 e g => by
            rw [← cl]; exact (a2 z z0 (by omega)).mpr (Or.inr ⟨a, a0, a1', g, e⟩)
          refine ⟨fun f => ⟨fun k z0 z1 => inn i _ i0 i1 z0 z1 (Or.inl rfl) (k i0 i1), fun k z0 z1 => inn _ i f f1 i0 i1 (Or.inr (Or.inr (Or.inr ⟨i1, Or.inl rfl⟩))) (k f f1)⟩, fun f => ⟨fun k z0 z1 => inn i _ i0 i1 z0 z1 (Or.inr (Or.inl rfl)) (k i0 i1), fun k z0 z1 => inn _ i f g1 i0 i1 (Or.inr (Or.inr (Or.inr ⟨i1, Or.inr rfl⟩))) (k f g1)⟩, fun f => ⟨fun k z0 z1 => inn i _ i0 i1 z0 z1 (Or.inr (Or.inr (Or.inl rfl))) (k i0 i1), fun k z0 z1 => ?_⟩⟩
          have dd : D (D i) = i := by
            rcases (rl.2.2 i i0 i1).2.2.2.2.2 with z | z
            · omega
            · exact z.2.2.1
          exact inn _ i f d1 i0 i1 (Or.inr (Or.inr (Or.inl dd.symm))) (k f d1)
        exact this y0 y2
    | succ k ih =>
      intro s b v1 v2 hk sx sb hs
      obtain ⟨t, v3, a1, a2⟩ := pass m.toNat 0 s s v1 (by omega) (by decide)
      by_cases cl : t = s
      · refine ⟨s, ?_, fun y y0 y1 => ⟨hs y y0 y1, fun ⟨y2, q⟩ => ?_⟩⟩
        · rw [f_M_houseOf_6_eq, if_neg sb, zI_0, a1, cl, f_M_houseOf_6_eq, if_pos rfl]
        · have := q (fun z => 0 ≤ z → z < m → gb s z = true) (fun _ _ => sx) fun i i0 i1 => by
            obtain ⟨-, -, ⟨f0, f1, f2⟩, ⟨g0, g1, g2⟩, d0, d1, d2⟩ := rl.bd n6 i0 i1
            have inn : ∀ a z, 0 ≤ a → a < m → 0 ≤ z → z < m → (z = F a ∨ z = G a ∨ z = D a ∨ z < m ∧ (F z = a ∨ G z = a)) → gb s a = true → gb s z = true := fun a z a0 a1' z0 z1 e g => by
              rw [← cl]; exact (a2 z z0 (by omega)).mpr (Or.inr ⟨a, a0, a1', g, e⟩)
            refine ⟨fun f => ⟨fun k z0 z1 => inn i _ i0 i1 z0 z1 (Or.inl rfl) (k i0 i1), fun k z0 z1 => inn _ i f f1 i0 i1 (Or.inr (Or.inr (Or.inr ⟨i1, Or.inl rfl⟩))) (k f f1)⟩, fun f => ⟨fun k z0 z1 => inn i _ i0 i1 z0 z1 (Or.inr (Or.inl rfl)) (k i0 i1), fun k z0 z1 => inn _ i f g1 i0 i1 (Or.inr (Or.inr (Or.inr ⟨i1, Or.inr rfl⟩))) (k f g1)⟩, fun f => ⟨fun k z0 z1 => inn i _ i0 i1 z0 z1 (Or.inr (Or.inr (Or.inl rfl))) (k i0 i1), fun k z0 z1 => ?_⟩⟩
            have dd : D (D i) = i := by
              rcases (rl.2.2 i i0 i1).2.2.2.2.2 with z | z
              · omega
              · exact z.2.2.1
            exact inn _ i f d1 i0 i1 (Or.inr (Or.inr (Or.inl dd.symm))) (k f d1)
          exact this y0 y2
      · have ts : ∀ y, 0 ≤ y → y < 32 → gb t y = true → y < m ∧ Hs m F G D x y := fun y y0 y1 z => by
          rcases (a2 y y0 y1).mp z with z | ⟨i, i0, i1, i2, i3⟩
          · exact hs y y0 y1 z
          · have r1 := rel i y i0 i1 y0 i3
            exact ⟨r1.1, (hs i i0 (by omega) i2).2.tr r1.2⟩
        have more : cnt (gb s) 24 < cnt (gb t) 24 := by
          rcases Classical.em (∃ y, 0 ≤ y ∧ y < 32 ∧ gb t y = true ∧ gb s y = false) with ⟨y, y0, y1, y2, y3⟩ | no
          · have := (ts y y0 y1 y2).1
            exact cnt_lt (fun z z0 z1 q => (a2 z z0 (by omega)).mpr (Or.inl q)) y0 (by omega) y2 y3
          · exact absurd (gb_ext fun y y0 y1 => by
              cases q : gb s y with
              | true => exact (a2 y y0 y1).mpr (Or.inl q)
              | false =>
                cases z : gb t y with
                | false => rfl
                | true => exact absurd ⟨y, y0, y1, z, q⟩ no) cl
        obtain ⟨u, b1, b2⟩ := ih t s v3 (.int (zI m)) (by omega) ((a2 x x0 (by omega)).mpr (Or.inl sx)) cl ts
        refine ⟨u, ?_, b2⟩
        rw [f_M_houseOf_6_eq, if_neg sb, zI_0, a1, b1]
  have s0 : ∀ y, 0 ≤ y → y < 32 → gb (zI 1 <<< (zI x &&& zI 31)) y = decide (y = x) := fun y y0 y1 => gb_sh x0 (by omega) y0 y1
  rw [f_M_houseOf_eq, show (1 : Int32) = zI 1 from zI_lit 1, show (31 : Int32) = zI 31 from zI_lit 31, zI_0]
  refine rounds 24 _ _ _ _ (by have := (cnt_nn (gb (zI 1 <<< (zI x &&& zI 31))) 24).1; omega) (by rw [s0 x x0 (by omega)]; simp) (fun e => ?_) fun y y0 y1 q => ?_
  · have := s0 x x0 (by omega)
    rw [e, gb_0] at this
    simp at this
  · rw [s0 y y0 y1, decide_eq_true_eq] at q
    subst q; exact ⟨x1, Hs.rf _ _ _ _ _⟩
