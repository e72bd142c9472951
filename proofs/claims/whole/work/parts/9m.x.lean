/-! settle -/
theorem HdOk.iff {m : Int} {F G D hd : Int → Int} (ho : HdOk m F G D hd) {x y : Int} (x0 : 0 ≤ x) (x1 : x < m) (y0 : 0 ≤ y) (y1 : y < m) : Hs m F G D x y ↔ hd x = hd y := by
  obtain ⟨a0, a1, a2, a3⟩ := ho x x0 x1
  obtain ⟨b0, b1, b2, b3⟩ := ho y y0 y1
  constructor
  · intro q
    have l1 := a3 _ b0 (by omega) (q.tr b2)
    have l2 := b3 _ a0 (by omega) (q.sy.tr a2)
    omega
  · intro e; rw [← e] at b2; exact a2.tr b2.sy
theorem HdOk.hh {m : Int} {F G D hd : Int → Int} (ho : HdOk m F G D hd) {x : Int} (x0 : 0 ≤ x) (x1 : x < m) : hd (hd x) = hd x := by
  obtain ⟨a0, a1, a2, a3⟩ := ho x x0 x1
  exact ((ho.iff x0 x1 a0 (by omega)).mp a2).symm
def StA (n m : Int) (W H M S T F G D hd : Int → Int) (i p : Int) (s : Int32) : Prop := ∀ x, 0 ≤ x → x < 32 → (gb s x = true ↔ x < n ∧ ∃ c, Cs n m W H M S F G D p c ∧ c p = x ∧ (∀ y, 0 ≤ y → y < m → Hs m F G D p y → 0 ≤ T y → T y = c y) ∧ c (hd p) < i)
def StB (n m : Int) (W H M S T F G D : Int → Int) (i h fw : Int) (gn : Int32) : Prop := (fw = 25 ∧ ∀ c, Cs n m W H M S F G D h c → ¬ c h < i) ∨ ∃ c, Cs n m W H M S F G D h c ∧ c h < i ∧ Off m T F G D h c gn ∧ fw = cnt (gb gn) 24 ∧ ∀ c' s, Cs n m W H M S F G D h c' → c' h < i → Off m T F G D h c' s → fw ≤ cnt (gb s) 24 ∧ (c' h < c h → fw < cnt (gb s) 24)
theorem stepHA {n m : Int} {W H C M S T F G D hd : Int → Int} (nm : NmOk n W H C M) (rl : RlOk n m S T F G D) (ho : HdOk m F G D hd) {i : Int} (i0 : 0 ≤ i) (i1 : i < n) {g : Int → Int} {s : Int32} {of u : Int → Int32} (ht : ∀ h, 0 ≤ h → h < m → hd h = h → (gb s h = false → Cs n m W H M S F G D h g ∧ g h = i) ∧ (gb s h = true → ¬ ∃ c, Cs n m W H M S F G D h c ∧ c h = i)) (hof : ∀ h, 0 ≤ h → h < m → OfB m T hd g h (of h)) {p : Int} (p0 : 0 ≤ p) (p1 : p < m) (ha : StA n m W H M S T F G D hd i p (u p)) : StA n m W H M S T F G D hd (i + 1) p (n76 hd g s of u p) := by
  have m24 := rl.2.1
  obtain ⟨h0, h1, hph, -⟩ := ho p p0 p1
  have hhh := ho.hh p0 p1
  obtain ⟨t1, t2⟩ := ht _ h0 (by omega) hhh
  have off : Off m T F G D (hd p) g (of (hd p)) := fun y y0 y1 => (hof _ h0 (by omega) y y0 y1).trans ⟨fun ⟨z1, z2, z3⟩ => ⟨z1, (ho.iff h0 (by omega) y0 z1).mpr (by rw [hhh, z2]), z3⟩, fun ⟨z1, z2, z3⟩ => ⟨z1, by rw [← (ho.iff h0 (by omega) y0 z1).mp z2, hhh], z3⟩⟩
  intro x x0 x1
  have eqg : gb s (hd p) = false → ∀ c, Cs n m W H M S F G D p c → c (hd p) = i → ∀ y, 0 ≤ y → y < m → Hs m F G D p y → c y = g y := fun b c cs ci y y0 y1 hy => by
    obtain ⟨c1, c2⟩ := t1 b
    exact Cs.uniq nm rl h0 (show hd p < m by omega) (cs.mv hph) c1 (by rw [ci, c2]) y0 y1 (hph.sy.tr hy)
  unfold n76
  by_cases q : gb s (hd p) = false ∧ of (hd p) = zI 0
  · obtain ⟨c1, c2⟩ := t1 q.1
    have told := (off.none m24).mp q.2
    have cp := (c1 p p0 p1 hph.sy)
    rw [if_pos q, gb_or, Bool.or_eq_true, ha x x0 x1, gb_sh cp.1 (by have := nm.1; omega) x0 x1, decide_eq_true_eq]
    constructor
    · rintro (⟨z1, c, z2, z3, z4, z5⟩ | rfl)
      · exact ⟨z1, c, z2, z3, z4, by omega⟩
      · exact ⟨cp.2.1, g, c1.mv hph.sy, rfl, fun y y0 y1 hy => told y y0 y1 (hph.sy.tr hy), by omega⟩
    · rintro ⟨z1, c, z2, z3, z4, z5⟩
      by_cases e : c (hd p) = i
      · exact Or.inr (by rw [← z3]; exact eqg q.1 c z2 e p p0 p1 (Hs.rf _ _ _ _ _))
      · exact Or.inl ⟨z1, c, z2, z3, z4, by omega⟩
  · rw [if_neg q, ha x x0 x1]
    constructor
    · rintro ⟨z1, c, z2, z3, z4, z5⟩
      exact ⟨z1, c, z2, z3, z4, by omega⟩
    · rintro ⟨z1, c, z2, z3, z4, z5⟩
      refine ⟨z1, c, z2, z3, z4, ?_⟩
      by_cases e : c (hd p) = i
      · exfalso
        cases b : gb s (hd p) with
        | true => exact t2 b ⟨c, z2.mv hph, e⟩
        | false =>
          refine q ⟨b, (off.none m24).mpr fun y y0 y1 hy ty => ?_⟩
          rw [z4 y y0 y1 (hph.tr hy) ty]
          exact eqg b c z2 e y y0 y1 (hph.tr hy)
      · omega
theorem stepHB {n m : Int} {W H C M S T F G D hd : Int → Int} (nm : NmOk n W H C M) (rl : RlOk n m S T F G D) (ho : HdOk m F G D hd) {i : Int} (i0 : 0 ≤ i) (i1 : i < n) {g fw : Int → Int} {s : Int32} {of gn : Int → Int32} (ht : ∀ h, 0 ≤ h → h < m → hd h = h → (gb s h = false → Cs n m W H M S F G D h g ∧ g h = i) ∧ (gb s h = true → ¬ ∃ c, Cs n m W H M S F G D h c ∧ c h = i)) (hof : ∀ h, 0 ≤ h → h < m → OfB m T hd g h (of h)) {h : Int} (h0 : 0 ≤ h) (h1 : h < m) (hhd : hd h = h) (hb : StB n m W H M S T F G D i h (fw h) (gn h)) : StB n m W H M S T F G D (i + 1) h (n80 hd s of fw h) (n81 hd s of fw gn h) := by
  have m24 := rl.2.1
  obtain ⟨t1, t2⟩ := ht h h0 h1 hhd
  have off : Off m T F G D h g (of h) := fun y y0 y1 => (hof h h0 h1 y y0 y1).trans ⟨fun ⟨z1, z2, z3⟩ => ⟨z1, (ho.iff h0 h1 y0 z1).mpr (by rw [hhd, z2]), z3⟩, fun ⟨z1, z2, z3⟩ => ⟨z1, by rw [← (ho.iff h0 h1 y0 z1).mp z2, hhd], z3⟩⟩
  have cn := cnt_nn (gb (of h)) 24
  -- at a trial that hangs together, what is off is what is off here
  have at_i : gb s h = false → ∀ c s', Cs n m W H M S F G D h c → c h = i → Off m T F G D h c s' → s' = of h := fun b c s' cs ci o' => by
    obtain ⟨c1, c2⟩ := t1 b
    exact Off.eq nm rl h0 h1 cs c1 (by rw [ci, c2]) o' off
  unfold n80 n81
  by_cases tk : takeA hd s of fw h
  · obtain ⟨b, -, lt⟩ := tk
    rw [hhd] at b
    rw [if_pos ⟨by rw [hhd]; exact b, hhd, lt⟩, if_pos ⟨by rw [hhd]; exact b, hhd, lt⟩]
    obtain ⟨c1, c2⟩ := t1 b
    refine Or.inr ⟨g, c1, by omega, off, rfl, fun c' s' cs' lt' o' => ?_⟩
    by_cases e : c' h = i
    · rw [at_i b c' s' cs' e o']
      exact ⟨Int.le_refl _, fun z => by omega⟩
    · rcases hb with ⟨f1, f2⟩ | ⟨c, z1, z2, z3, z4, z5⟩
      · exact absurd (show c' h < i by omega) (f2 c' cs')
      · have := z5 c' s' cs' (by omega) o'
        exact ⟨by omega, fun _ => by omega⟩
  · rw [if_neg tk, if_neg tk]
    rcases hb with ⟨f1, f2⟩ | ⟨c, z1, z2, z3, z4, z5⟩
    · refine Or.inl ⟨f1, fun c cs lt => ?_⟩
      by_cases e : c h = i
      · cases b : gb s h with
        | true => exact t2 b ⟨c, cs, e⟩
        | false => exact tk ⟨by rw [hhd]; exact b, hhd, by omega⟩
      · exact f2 c cs (by omega)
    · refine Or.inr ⟨c, z1, by omega, z3, z4, fun c' s' cs' lt' o' => ?_⟩
      by_cases e : c' h = i
      · cases b : gb s h with
        | true => exact absurd ⟨c', cs', e⟩ (t2 b)
        | false =>
          rw [at_i b c' s' cs' e o']
          have : ¬ cnt (gb (of h)) 24 < fw h := fun lt => tk ⟨by rw [hhd]; exact b, hhd, lt⟩
          exact ⟨by omega, fun z => by omega⟩
      · exact z5 c' s' cs' (by omega) o'
theorem settle_sp {r p : Nat} {n m : Int} {W H C M S T F G D : Int → Int} {σ : Sg} (hx : PX r p n m W H C M S T F G D σ) {d : Nat} : ∃ σ', f_Houses_settle (d + 5) r p σ = rV σ' ∧ Fr SHo σ σ' ∧ HouOk n m W H M S T F G D (rd σ' 76) (rd σ' 77) (rd σ' 80) (fun y => σ'.1 76 y.toNat) (fun y => σ'.1 81 y.toNat) := by
  obtain ⟨nm, ⟨n0, n6⟩, m0, m24⟩ := hx.nm
  have hP := hx.1
  have hR := hx.2.1
  have rl := hx.2.2.2.2.2
  obtain ⟨σ1, hd, a1, K1, ho, h77⟩ := findHeads_sp hx (d := d + 1)
  obtain ⟨σ2, a2, v2, K2, -⟩ := fill_sp (a := 76) (n := 24) rfl (by decide) (v := zI 0) (σ := σ1) (d := d + 3)
  obtain ⟨σ3, a3, v3, K3, -⟩ := fill_sp (a := 80) (n := 24) rfl (by decide) (v := zI 25) (σ := σ2) (d := d + 3)
  obtain ⟨σ4, a4, v4, K4, -⟩ := fill_sp (a := 81) (n := 24) rfl (by decide) (v := zI 0) (σ := σ3) (d := d + 3)
  have S77o : ∀ {σ τ : Sg}, Fr S77 σ τ → Fr SHo σ τ := fun K => K.mono fun a k e => by simp only [SHo, Bool.or_eq_false_iff] at e; exact e.1.1.1.1.2
  have S78o : ∀ {σ τ : Sg}, Fr S78 σ τ → Fr SHo σ τ := fun K => K.mono fun a k e => by simp only [SHo, Bool.or_eq_false_iff] at e; exact e.1.1.1.2
  have S75o : ∀ {σ τ : Sg}, Fr S75 σ τ → Fr SHo σ τ := fun K => K.mono fun a k e => by simp only [SHo, Bool.or_eq_false_iff] at e; exact e.1.1.1.1.1.1
  have S79o : ∀ {σ τ : Sg}, Fr S79 σ τ → Fr SHo σ τ := fun K => K.mono fun a k e => by simp only [SHo, Bool.or_eq_false_iff] at e; exact e.1.1.2
  have S768o : ∀ {σ τ : Sg}, Fr S768 σ τ → Fr SHo σ τ := fun K => K.mono fun a k e => by simp only [SHo, S768, Bool.or_eq_false_iff] at e ⊢; exact ⟨⟨e.1.1.1.1.1.2, e.1.2⟩, e.2⟩
  have K04 : Fr SHo σ σ4 := (((S77o K1).tr (K2.mono fun a k e => by simp only [SHo, Bool.or_eq_false_iff] at e; exact e.1.1.1.1.1.2)).tr (K3.mono fun a k e => by simp only [SHo, Bool.or_eq_false_iff] at e; exact e.1.2)).tr (K4.mono fun a k e => by simp only [SHo, Bool.or_eq_false_iff] at e; exact e.2)
  have main : ∀ (k : Nat) (i : Int) (τ : Sg) (fw : Int → Int), i + k = n → 0 ≤ i → Fr SHo σ τ → (∀ y, 0 ≤ y → y < m → τ.1 77 y.toNat = zI (hd y)) → (∀ y, 0 ≤ y → y < m → τ.1 80 y.toNat = zI (fw y) ∧ 0 ≤ fw y ∧ fw y ≤ 25) → (∀ y, 0 ≤ y → y < m → StA n m W H M S T F G D hd i y (τ.1 76 y.toNat)) → (∀ h, 0 ≤ h → h < m → hd h = h → StB n m W H M S T F G D i h (fw h) (τ.1 81 h.toNat)) → ∃ (τ' : Sg) (fw' : Int → Int), f_Houses_settle_32 (d + 4) r p (zI i) τ = rV τ' ∧ Fr SHo σ τ' ∧ (∀ y, 0 ≤ y → y < m → τ'.1 77 y.toNat = zI (hd y)) ∧ (∀ y, 0 ≤ y → y < m → τ'.1 80 y.toNat = zI (fw' y) ∧ 0 ≤ fw' y ∧ fw' y ≤ 25) ∧ (∀ y, 0 ≤ y → y < m → StA n m W H M S T F G D hd n y (τ'.1 76 y.toNat)) ∧ (∀ h, 0 ≤ h → h < m → hd h = h → StB n m W H M S T F G D n h (fw' h) (τ'.1 81 h.toNat)) := by
    intro k
    induction k with
    | zero =>
      intro i τ fw hi i0 K h77 h80 hA hB
      have : i = n := by omega
      subst this
      have er : τ.1 r 0 = zI i := by rw [show τ.1 r 0 = zI (rd τ r 0) from rd_k τ r 0, (hx.fr K).2.1.2.1]
      exact ⟨τ, fw, by rw [f_Houses_settle_32_eq, gfI_of hR.1.s0, er, if_neg Int32.lt_irrefl], K, h77, h80, hA, hB⟩
    | succ k ih =>
      intro i τ fw hi i0 K h77 h80 hA hB
      have i1 : i < n := by omega
      have hx1 := hx.fr K
      have er : τ.1 r 0 = zI n := by rw [show τ.1 r 0 = zI (rd τ r 0) from rd_k τ r 0, hx1.2.1.2.1]
      obtain ⟨τ1, g, b1, L1, g1, j1, e1⟩ := nameAll_sp hx1 ho h77 (d := d + 1) i0 i1
      have hx2 := hx1.f78 L1
      have h77b : ∀ y, 0 ≤ y → y < m → τ1.1 77 y.toNat = zI (hd y) := fun y y0 y1 => (L1.2 _ _ rfl).trans (h77 y y0 y1)
      obtain ⟨τ2, b2, L2, f2⟩ := findBroken_sp hx2 ho h77b (d := d + 1) g1 j1.1
      have hx3 := hx2.f75 L2
      have h77c : ∀ y, 0 ≤ y → y < m → τ2.1 77 y.toNat = zI (hd y) := fun y y0 y1 => (L2.2 _ _ rfl).trans (h77b y y0 y1)
      have g2 : ∀ y, 0 ≤ y → y < m → τ2.1 78 y.toNat = zI (g y) := fun y y0 y1 => (L2.2 _ _ rfl).trans (g1 y y0 y1)
      obtain ⟨τ3, b3, L3, f3⟩ := takeOff_sp hx3 ho h77c (d := d + 1) g2 j1.1
      have hx4 := hx3.f79 L3
      have old : ∀ a k, (a = 76 ∨ a = 80 ∨ a = 81) → τ3.1 a k = τ.1 a k := fun a k q => (L3.2 a k (by rcases q with rfl | rfl | rfl <;> rfl)).trans ((L2.2 a k (by rcases q with rfl | rfl | rfl <;> rfl)).trans (L1.2 a k (by rcases q with rfl | rfl | rfl <;> rfl)))
      obtain ⟨τ4, b4, L4, f4⟩ := takeIn67_sp hx4 ho (fun y y0 y1 => (L3.2 _ _ rfl).trans (h77c y y0 y1)) (d := d + 1) (g := g) (fw := fw) (of := fun y => τ3.1 79 y.toNat) (u := fun y => τ.1 76 y.toNat) (gn := fun y => τ.1 81 y.toNat) (s := τ2.1 75 6) (fun y y0 y1 => (L3.2 _ _ rfl).trans (g2 y y0 y1)) (fun h h0 h1 => rfl) f3 (L3.2 _ _ rfl) (fun y y0 y1 => old 76 _ (Or.inl rfl)) (fun y y0 y1 => by rw [old 80 _ (Or.inr (Or.inl rfl))]; exact h80 y y0 y1) (fun y y0 y1 => old 81 _ (Or.inr (Or.inr rfl))) (v := .null)
      have K5 : Fr SHo σ τ4 := ((((K.tr (S78o L1)).tr (S75o L2)).tr (S79o L3)).tr (S768o L4))
      have ht := fun h h0 h1 hhd => trial nm rl ho i0 i1 j1 e1 f2 (h := h) h0 h1 hhd
      obtain ⟨τ', fw', u1, u2⟩ := ih (i + 1) τ4 (n80 hd (τ2.1 75 6) (fun y => τ3.1 79 y.toNat) fw) (by omega) (by omega) K5 (fun y y0 y1 => (L4.2 _ _ rfl).trans ((L3.2 _ _ rfl).trans (h77c y y0 y1))) (fun y y0 y1 => by
        refine ⟨(f4 y y0 y1).2.1, ?_⟩
        have hb := (h80 y y0 y1).2
        have cn := cnt_nn (gb (τ3.1 79 y.toNat)) 24
        unfold n80
        dsimp only
        split <;> omega) (fun y y0 y1 => by rw [(f4 y y0 y1).1]; exact stepHA nm rl ho i0 i1 ht f3 y0 y1 (hA y y0 y1)) (fun h h0 h1 hhd => by rw [(f4 h h0 h1).2.2]; exact stepHB nm rl ho i0 i1 ht f3 h0 h1 hhd (hB h h0 h1 hhd))
      refine ⟨τ', fw', ?_, u2⟩
      rw [f_Houses_settle_32_eq, gfI_of hR.1.s0, er, if_pos (by rw [zI_le (by omega) (by omega)]; exact i1), b1, cV_rV, b2, cV_rV, b3, b4, cV_rV, show (1 : Int32) = zI 1 from zI_lit 1, zI_add]
      exact u1
  obtain ⟨τ', fw', u1, u2, u3, u4, u5, u6⟩ := main n.toNat 0 σ4 (fun _ => 25) (by omega) (by decide) K04 (fun y y0 y1 => by
    rw [K4.2 _ _ rfl, K3.2 _ _ rfl, K2.2 _ _ rfl]; exact h77 y y0 y1) (fun y y0 y1 => by
    rw [K4.2 _ _ rfl, v3 _ (by omega)]; exact ⟨rfl, by decide, by decide⟩) (fun y y0 y1 x x0 x1 => by
    rw [K4.2 _ _ rfl, K3.2 _ _ rfl, v2 _ (by omega), gb_0]
    refine ⟨fun z => absurd z Bool.false_ne_true, fun ⟨z1, c, z2, z3, z4, z5⟩ => ?_⟩
    obtain ⟨o0, o1, o2, -⟩ := ho y y0 y1
    have := (z2 _ o0 (by omega) o2).1
    omega) (fun h h0 h1 hhd => Or.inl ⟨rfl, fun c cs lt => by
    have := (cs h h0 h1 (Hs.rf _ _ _ _ _)).1
    omega⟩)
  have r77 : ∀ y, 0 ≤ y → y < m → rd τ' 77 y = hd y := fun y y0 y1 => by
    have := ho y y0 y1
    have e := u3 y y0 y1
    show (τ'.1 77 y.toNat).toInt = hd y
    rw [e]; exact zI_toInt (by omega) (by omega)
  have r80 : ∀ y, 0 ≤ y → y < m → rd τ' 80 y = fw' y := fun y y0 y1 => by
    obtain ⟨e, e1, e2⟩ := u4 y y0 y1
    show (τ'.1 80 y.toNat).toInt = fw' y
    rw [e]; exact zI_toInt (by omega) (by omega)
  refine ⟨τ', ?_, u2, fun q q0 q1 => ?_, fun h h0 h1 hhd => ?_⟩
  · have a1 : f_Houses_findHeads (d + 4) p σ = rV σ1 := a1
    have a2 : f_Arrays_fill_2I (d + 4) 76 (zI 0) σ1 = rV σ2 := a2
    have a3 : f_Arrays_fill_2I (d + 4) 80 (zI 25) σ2 = rV σ3 := a3
    have a4 : f_Arrays_fill_2I (d + 4) 81 (zI 0) σ3 = rV σ4 := a4
    rw [f_Houses_settle_eq, a1, cV_rV, zI_0, show (25 : Int32) = zI 25 from zI_lit 25, a2, cV_rV, a3, cV_rV, a4, cV_rV]
    exact u1
  · obtain ⟨o0, o1, o2, o3⟩ := ho q q0 q1
    rw [r77 q q0 q1]
    refine ⟨o0, o1, o2, o3, fun x x0 x1 => (u5 q q0 q1 x x0 x1).trans ⟨fun ⟨z1, c, z2, z3, z4, z5⟩ => ⟨z1, c, z2, z3, z4⟩, fun ⟨z1, c, z2, z3, z4⟩ => ⟨z1, c, z2, z3, z4, (z2 _ o0 (by omega) o2).2.1⟩⟩⟩
  · rw [r77 h h0 h1] at hhd
    rw [r80 h h0 h1]
    have lt : ∀ c, Cs n m W H M S F G D h c → c h < n := fun c cs => (cs h h0 h1 (Hs.rf _ _ _ _ _)).2.1
    rcases u6 h h0 h1 hhd with ⟨z1, z2⟩ | ⟨c, z1, z2, z3, z4, z5⟩
    · exact Or.inl ⟨z1, fun c cs => z2 c cs (lt c cs)⟩
    · exact Or.inr ⟨c, z1, z3, z4, fun c' s cs' o' => z5 c' s cs' (lt c' cs') o'⟩
