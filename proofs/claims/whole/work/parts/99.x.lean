/-! mended -/
theorem Cs.uniq {n m : Int} {W H C M S T F G D g g' : Int → Int} (nm : NmOk n W H C M) (rl : RlOk n m S T F G D) {h : Int} (h0 : 0 ≤ h) (h1 : h < m) (c : Cs n m W H M S F G D h g) (c' : Cs n m W H M S F G D h g') (e : g h = g' h) {y : Int} (y0 : 0 ≤ y) (y1 : y < m) (hy : Hs m F G D h y) : g y = g' y := by
  have n6 := nm.1
  have key := hy (fun z => 0 ≤ z → z < m → Hs m F G D h z ∧ g z = g' z) (fun _ _ => ⟨Hs.rf _ _ _ _ _, e⟩) fun i i0 i1 => by
    obtain ⟨-, -, ⟨f0, f1, f2⟩, ⟨g0, g1, g2⟩, d0, d1, d2⟩ := rl.bd n6 i0 i1
    have im : ∀ a b, 0 ≤ a → a < n → 0 ≤ b → b < n → M a = M b → a = b := fun a b a0 a1 b0 b1 q => by
      rw [← (nm.2 a a0 a1).2.2.2.2.2.2, q, (nm.2 b b0 b1).2.2.2.2.2.2]
    have ih : ∀ a b, 0 ≤ a → a < n → 0 ≤ b → b < n → H a = H b → a = b := fun a b a0 a1 b0 b1 q => by
      rw [← (nm.2 a a0 a1).1.2.2.2.2.2, q, (nm.2 b b0 b1).1.2.2.2.2.2]
    have iw : ∀ a b, 0 ≤ a → a < n → 0 ≤ b → b < n → W a = W b → a = b := fun a b a0 a1 b0 b1 q => by
      rw [← (nm.2 a a0 a1).1.2.2.2.2.1, q, (nm.2 b b0 b1).1.2.2.2.2.1]
    refine ⟨fun f => ⟨fun k _ _ => ?_, fun k _ _ => ?_⟩, fun f => ⟨fun k _ _ => ?_, fun k _ _ => ?_⟩, fun f => ⟨fun k _ _ => ?_, fun k _ _ => ?_⟩⟩
    · obtain ⟨hi, ei⟩ := k i0 i1
      exact ⟨hi.tr (Hs.f i0 i1 f), by rw [(c i i0 i1 hi).2.2.1 f, (c' i i0 i1 hi).2.2.1 f, ei]⟩
    · obtain ⟨hf, ef⟩ := k f f1
      have hi : Hs m F G D h i := hf.tr (Hs.f i0 i1 f).sy
      obtain ⟨a0, a1, a2, -⟩ := c i i0 i1 hi
      obtain ⟨b0, b1, b2, -⟩ := c' i i0 i1 hi
      rw [a2 f, b2 f] at ef
      have ma := (nm.2 _ a0 a1).2.2.2.1
      have ma' := (nm.2 _ a0 a1).2.2.2.2.1
      have mb := (nm.2 _ b0 b1).2.2.2.1
      have mb' := (nm.2 _ b0 b1).2.2.2.2.1
      exact ⟨hi, im _ _ a0 a1 b0 b1 (ih _ _ ma ma' mb mb' ef)⟩
    · obtain ⟨hi, ei⟩ := k i0 i1
      exact ⟨hi.tr (Hs.g i0 i1 f), by rw [(c i i0 i1 hi).2.2.2.1 f, (c' i i0 i1 hi).2.2.2.1 f, ei]⟩
    · obtain ⟨hf, ef⟩ := k f g1
      have hi : Hs m F G D h i := hf.tr (Hs.g i0 i1 f).sy
      obtain ⟨a0, a1, -, a2, -⟩ := c i i0 i1 hi
      obtain ⟨b0, b1, -, b2, -⟩ := c' i i0 i1 hi
      rw [a2 f, b2 f] at ef
      exact ⟨hi, im _ _ a0 a1 b0 b1 ef⟩
    · obtain ⟨hi, ei⟩ := k i0 i1
      exact ⟨hi.tr (Hs.d i0 i1 f), by rw [(c i i0 i1 hi).2.2.2.2 f, (c' i i0 i1 hi).2.2.2.2 f, ei]⟩
    · obtain ⟨hf, ef⟩ := k f d1
      have hi : Hs m F G D h i := hf.tr (Hs.d i0 i1 f).sy
      obtain ⟨a0, a1, -, -, a2⟩ := c i i0 i1 hi
      obtain ⟨b0, b1, -, -, b2⟩ := c' i i0 i1 hi
      rw [a2 f, b2 f] at ef
      refine ⟨hi, ?_⟩
      by_cases s : S i = 0
      · rw [if_pos s, if_pos s] at ef; exact iw _ _ a0 a1 b0 b1 ef
      · rw [if_neg s, if_neg s] at ef; exact ih _ _ a0 a1 b0 b1 ef
  exact (key y0 y1).2
theorem Off.eq {n m : Int} {W H C M S T F G D g g' : Int → Int} (nm : NmOk n W H C M) (rl : RlOk n m S T F G D) {h : Int} (h0 : 0 ≤ h) (h1 : h < m) (c : Cs n m W H M S F G D h g) (c' : Cs n m W H M S F G D h g') (e : g h = g' h) {s s' : Int32} (o : Off m T F G D h g s) (o' : Off m T F G D h g' s') : s = s' := gb_ext fun y y0 y1 => by
  rw [Bool.eq_iff_iff, o y y0 y1, o' y y0 y1]
  constructor
  · rintro ⟨a1, a2, a3, a4⟩; exact ⟨a1, a2, a3, by rw [← Cs.uniq nm rl h0 h1 c c' e y0 a1 a2]; exact a4⟩
  · rintro ⟨a1, a2, a3, a4⟩; exact ⟨a1, a2, a3, by rw [Cs.uniq nm rl h0 h1 c c' e y0 a1 a2]; exact a4⟩
theorem Off.ne {m : Int} {T F G D g : Int → Int} {h : Int} {s : Int32} (o : Off m T F G D h g s) (m24 : m ≤ 24) : s ≠ zI (-1) := fun e => by
  have := (o 31 (by decide) (by decide)).mp (by rw [e]; decide)
  omega
/-- the best by a name below i -/
def BestAt (n m : Int) (W H M S T F G D : Int → Int) (h i : Int) (s : Int32) : Prop := (s = zI (-1) ∧ ∀ g, Cs n m W H M S F G D h g → ¬ g h < i) ∨ ∃ g, Cs n m W H M S F G D h g ∧ g h < i ∧ Off m T F G D h g s ∧ ∀ g' s', Cs n m W H M S F G D h g' → g' h < i → Off m T F G D h g' s' → cnt (gb s) 24 ≤ cnt (gb s') 24 ∧ (g' h < g h → cnt (gb s) 24 < cnt (gb s') 24)
theorem mendedAt_sp {r p0 : Nat} {n m : Int} {W H C M S T F G D : Int → Int} {σ : Sg} (hx : HX r p0 n m W H C M S T F G D σ) {d : Nat} {h : Int} (h0 : 0 ≤ h) (h1 : h < m) : ∃ τ' s, f_M_mendedAt (d + 8) (zI h) σ = rI s τ' ∧ Fr S152 σ τ' ∧ BestAt n m W H M S T F G D h n s := by
  obtain ⟨rl, rm, e69, m0, m24⟩ := hx.rl
  obtain ⟨nm, ⟨n0, n6⟩, mr, e5⟩ := hx.nm
  obtain ⟨hs, c1, c2⟩ := houseOf_sp hx (d := d + 4) h0 h1
  have loop : ∀ (k : Nat) (i : Int) (s : Int32) (v : Value) (τ : Sg), i + k = n → 0 ≤ i → Fr S152 σ τ → BestAt n m W H M S T F G D h i s → ∃ τ' s', f_M_mendedAt_11 (d + 7) (zI h) hs s (zI i) v τ = rI s' τ' ∧ Fr S152 σ τ' ∧ BestAt n m W H M S T F G D h n s' := by
    intro k
    induction k with
    | zero =>
      intro i s v τ hi i0 K hb
      have : i = n := by omega
      subst this
      exact ⟨τ, s, by rw [f_M_mendedAt_11_eq, (hx.f152 K).nm.2.2.2, if_neg Int32.lt_irrefl], K, hb⟩
    | succ k ih =>
      intro i s v τ hi i0 K hb
      have i1 : i < n := by omega
      obtain ⟨τ1, b, g, d1, K1, d2, d3, d4⟩ := canBeBy_sp (hx.f152 K) (d := d + 1) h0 h1 i0 i1
      have hx1 := (hx.f152 K).f152 K1
      obtain ⟨t, m1, m2⟩ := mismatched_sp hx1 (d := d + 5) (h := h) d2 c2
      have ib := cnt_nn (gb t) 24
      have is := cnt_nn (gb s) 24
      have hd : f_M_mendedAt_11 (d + 7) (zI h) hs s (zI i) v τ = if bz b = zI 0 then f_M_mendedAt_11 (d + 7) (zI h) hs s (zI (i + 1)) v τ1 else if s = zI (-1) then f_M_mendedAt_11 (d + 7) (zI h) hs t (zI (i + 1)) (.int t) τ1 else if cnt (gb t) 24 < cnt (gb s) 24 then f_M_mendedAt_11 (d + 7) (zI h) hs t (zI (i + 1)) (.int t) τ1 else f_M_mendedAt_11 (d + 7) (zI h) hs s (zI (i + 1)) (.int t) τ1 := by
        have kk : (zI (cnt (gb t) 24) < zI (cnt (gb s) 24)) = (cnt (gb t) 24 < cnt (gb s) 24) := zI_le (by omega) (by omega)
        rw [f_M_mendedAt_11_eq, (hx.f152 K).nm.2.2.2, if_pos (by rw [zI_le (by omega) (by omega)]; exact i1), d1, cI_rI, m1, cI_rI, bits_sp, cI_rI, bits_sp, cI_rI, zI_0, show (-1 : Int32) = zI (-1) from rfl, show (1 : Int32) = zI 1 from zI_lit 1, zI_add]
        simp only [kk]
      rw [hd]
      cases b with
      | false =>
        have no := d4 rfl
        rw [bz_ff, if_pos rfl]
        refine ih (i + 1) s v τ1 (by omega) (by omega) (K.tr K1) ?_
        have lt : ∀ g', Cs n m W H M S F G D h g' → g' h < i + 1 → g' h < i := fun g' c' q => by
          have : g' h ≠ i := fun e => no ⟨g', c', e⟩
          omega
        rcases hb with ⟨e, hn⟩ | ⟨g0, a1, a2, a3, a4⟩
        · exact Or.inl ⟨e, fun g' c' q => hn g' c' (lt g' c' q)⟩
        · exact Or.inr ⟨g0, a1, by omega, a3, fun g' s' c' q o' => a4 g' s' c' (lt g' c' q) o'⟩
      | true =>
        obtain ⟨cg, gh, un⟩ := d3 rfl
        rw [bz_tt, if_neg (by decide)]
        have new : ∀ g' s', Cs n m W H M S F G D h g' → g' h = i → Off m T F G D h g' s' → s' = t := fun g' s' c' e o' => Off.eq nm rl h0 h1 c' cg (by rw [e, gh]) o' m2
        rcases hb with ⟨e, hn⟩ | ⟨g0, a1, a2, a3, a4⟩
        · rw [if_pos e]
          refine ih (i + 1) t _ τ1 (by omega) (by omega) (K.tr K1) (Or.inr ⟨g, cg, by omega, m2, fun g' s' c' q o' => ?_⟩)
          have : g' h = i := by have := hn g' c'; omega
          rw [new g' s' c' this o']
          exact ⟨Int.le_refl _, fun z => by omega⟩
        · rw [if_neg (a3.ne m24)]
          by_cases z : cnt (gb t) 24 < cnt (gb s) 24
          · rw [if_pos z]
            refine ih (i + 1) t _ τ1 (by omega) (by omega) (K.tr K1) (Or.inr ⟨g, cg, by omega, m2, fun g' s' c' q o' => ?_⟩)
            by_cases e : g' h = i
            · rw [new g' s' c' e o']; exact ⟨Int.le_refl _, fun y => by omega⟩
            · have := (a4 g' s' c' (by omega) o').1
              exact ⟨by omega, fun _ => by omega⟩
          · rw [if_neg z]
            refine ih (i + 1) s _ τ1 (by omega) (by omega) (K.tr K1) (Or.inr ⟨g0, a1, by omega, a3, fun g' s' c' q o' => ?_⟩)
            by_cases e : g' h = i
            · rw [new g' s' c' e o']; exact ⟨by omega, fun y => by omega⟩
            · exact a4 g' s' c' (by omega) o'
  obtain ⟨τ', s, a1, a2, a3⟩ := loop n.toNat 0 (zI (-1)) .null σ (by omega) (by decide) (Fr.rf _ _) (Or.inl ⟨rfl, fun g c q => by
    have := (c h h0 h1 (Hs.rf _ _ _ _ _)).1; omega⟩)
  refine ⟨τ', s, ?_, a2, a3⟩
  rw [f_M_mendedAt_eq, c1, cI_rI, zI_0, show (-1 : Int32) = zI (-1) from rfl]; exact a1
/-- both know the same -/
theorem mended_at {r p l : Nat} {σ : Sg} (h : Inv r p l σ) {d : Nat} {x : Int} (x0 : 0 ≤ x) (x1 : x < rd σ p 0) (hx : rd σ 77 x = x) : ∃ τ', f_M_mendedAt (d + 8) (zI x) σ = rI (if rd σ 80 x = 25 then zI (-1) else σ.1 81 x.toNat) τ' ∧ Fr S152 σ τ' ∧ (rd σ 80 x ≠ 25 → σ.1 81 x.toNat ≠ zI (-1) ∧ ∀ y, 24 ≤ y → y < 32 → gb (σ.1 81 x.toNat) y = false) := by
  obtain ⟨nm, ⟨n0, n6⟩, -, -⟩ := h.hx.nm
  obtain ⟨rl, -, -, m0, m24⟩ := h.hx.rl
  obtain ⟨τ', s, a1, a2, a3⟩ := mendedAt_sp h.hx (d := d) x0 x1
  refine ⟨τ', ?_, a2, ?_⟩
  · rw [a1]
    congr 1
    rcases h.2.2.2.2.2.1.2 x x0 x1 hx with ⟨e, no⟩ | ⟨g, c, o, e, mi⟩
    · rw [if_pos e]
      rcases a3 with ⟨e', -⟩ | ⟨g, c, -⟩
      · exact e'
      · exact absurd c (no g)
    · have o : Off _ _ _ _ _ x g (σ.1 81 x.toNat) := o
      have e : rd σ 80 x = cnt (gb (σ.1 81 x.toNat)) 24 := e
      have c24 := cnt_nn (gb (σ.1 81 x.toNat)) 24
      rw [if_neg (by omega)]
      have gb0 := c x x0 x1 (Hs.rf _ _ _ _ _)
      rcases a3 with ⟨-, no⟩ | ⟨g', c', l', o', mi'⟩
      · exact absurd gb0.2.1 (no g c)
      · have m1 := mi g' s c' o'
        have m2 := mi' g (σ.1 81 x.toNat) c gb0.2.1 o
        have : g' x = g x := by
          rcases Int.lt_or_le (g' x) (g x) with z | z
          · have := m1.2 z; omega
          · rcases Int.lt_or_le (g x) (g' x) with y | y
            · have := m2.2 y; omega
            · omega
        exact Off.eq nm rl x0 x1 c' c this o' o
  · intro ne
    rcases h.2.2.2.2.2.1.2 x x0 x1 hx with ⟨e, -⟩ | ⟨g, c, o, -⟩
    · exact absurd e ne
    · have o : Off _ _ _ _ _ x g (σ.1 81 x.toNat) := o
      refine ⟨o.ne m24, fun y y0 y1 => ?_⟩
      cases q : gb (σ.1 81 x.toNat) y with
      | false => rfl
      | true => have := ((o y (by omega) y1).mp q).1; omega
