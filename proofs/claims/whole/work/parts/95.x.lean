/-! whether a house hangs together -/
theorem canBeBy_sp {r p0 : Nat} {n m : Int} {W H C M S T F G D : Int → Int} {σ : Sg} (hx : HX r p0 n m W H C M S T F G D σ) {d : Nat} {h x : Int} (h0 : 0 ≤ h) (h1 : h < m) (x0 : 0 ≤ x) (x1 : x < n) : ∃ τ' b g, f_M_canBeBy (d + 6) (zI h) (zI x) σ = rI (bz b) τ' ∧ Fr S152 σ τ' ∧ (∀ y, 0 ≤ y → y < m → τ'.1 152 y.toNat = zI (g y) ∧ -1 ≤ g y ∧ g y < n) ∧ (b = true → Cs n m W H M S F G D h g ∧ g h = x ∧ ∀ g', Cs n m W H M S F G D h g' → g' h = x → ∀ y, 0 ≤ y → y < m → Hs m F G D h y → g' y = g y) ∧ (b = false → ¬ ∃ g', Cs n m W H M S F G D h g' ∧ g' h = x) := by
  obtain ⟨rl, rm, e69, m0, m24⟩ := hx.rl
  obtain ⟨nm, ⟨n0, n6⟩, mr, e5⟩ := hx.nm
  -- one pass
  have pass : ∀ (k : Nat) (p : Int) (τ : Sg) (s0 s : NSt) (v1 v2 : Value), p + k = m → 0 ≤ p → Fr S152 σ τ → NS m s τ → NJ n m W H M S F G D h x s → Nsp m s0 s (fun g => ∀ i, 0 ≤ i → i < p → g i = -1 ∨ KinP m W H C M S F G D i g) → ∃ τ' s' v1' v2', f_M_canBeBy_60 (d + 5) v1 v2 (zI p) τ = f_M_canBeBy_39 (d + 5) v1' v2' (.int (zI m)) τ' ∧ Fr S152 σ τ' ∧ NS m s' τ' ∧ NJ n m W H M S F G D h x s' ∧ Nsp m s0 s' (fun g => ∀ i, 0 ≤ i → i < m → g i = -1 ∨ KinP m W H C M S F G D i g) := by
    intro k
    induction k with
    | zero =>
      intro p τ s0 s v1 v2 hp p0' K hs hj st
      have : p = m := by omega
      subst this
      exact ⟨τ, s, v1, v2, by rw [f_M_canBeBy_60_eq, (hx.f152 K).rl.2.2.1, if_neg Int32.lt_irrefl], K, hs, hj, st⟩
    | succ k ih =>
      intro p τ s0 s v1 v2 hp p0' K hs hj st
      have p1 : p < m := by omega
      have e := hs.1 p p0' p1
      have gb : s.1 p = -1 ∨ 0 ≤ s.1 p ∧ s.1 p < n := by
        by_cases y : s.1 p = -1
        · exact Or.inl y
        · exact Or.inr ⟨(hj.1 p p0' p1 y).2.1, (hj.1 p p0' p1 y).2.2.1⟩
      rw [f_M_canBeBy_60_eq, (hx.f152 K).rl.2.2.1, if_pos (by rw [zI_le (by omega) (by omega)]; exact p1), bnd_zI p0' (by omega) (by omega), ix_zI p0' (by omega), e, show (-1 : Int32) = zI (-1) from rfl, show (1 : Int32) = zI 1 from zI_lit 1, zI_add]
      by_cases z : s.1 p = -1
      · rw [if_pos (congrArg zI z)]
        refine ih (p + 1) τ s0 s _ _ (by omega) (by omega) K hs hj ?_
        obtain ⟨b1, b2, b3, b4, b5⟩ := st
        refine ⟨b1, b2, b3, fun q => ⟨(b4 q).1, fun w i i0 i1 => ?_⟩, b5⟩
        by_cases y : i = p
        · subst y; rw [(b4 q).1] at z; exact Or.inl z
        · exact (b4 q).2 w i i0 (by omega)
      · rw [if_neg (by rw [zI_eq (by omega) (by decide)]; exact z)]
        obtain ⟨τ1, s1, a1, K1, hs1, hj1, st1⟩ := namesKin_sp (hx.f152 K) (d := d + 1) hs hj p0' p1 z
        rw [a1, cV_rV]
        refine ih (p + 1) τ1 s0 s1 _ _ (by omega) (by omega) (K.tr K1) hs1 hj1 ((st.tr st1).mono fun g i i0 i1 => ?_)
        by_cases y : i = p
        · subst y; exact Or.inr g.2
        · exact g.1 i i0 (by omega)
  -- rounds
  have rounds : ∀ (k : Nat) (τ : Sg) (s : NSt) (v1 v2 v3 : Value), m ≤ cnt (fun y => decide (s.1 y ≠ -1)) m.toNat + k → Fr S152 σ τ → NS m s τ → NJ n m W H M S F G D h x s → s.1 h = x → (s.2.2 = false → ∀ i, 0 ≤ i → i < m → s.2.1 = false → s.1 i = -1 ∨ KinP m W H C M S F G D i s.1) → ∃ τ' s', f_M_canBeBy_39 (d + 5) v1 v2 v3 τ = rI (bz (!s'.2.1)) τ' ∧ Fr S152 σ τ' ∧ NS m s' τ' ∧ NJ n m W H M S F G D h x s' ∧ s'.1 h = x ∧ (s'.2.1 = false → ∀ i, 0 ≤ i → i < m → s'.1 i = -1 ∨ KinP m W H C M S F G D i s'.1) := by
    intro k
    induction k with
    | zero =>
      intro τ s v1 v2 v3 hk K hs hj hh hq
      -- all are named: a pass changes nothing
      rw [f_M_canBeBy_39_eq, hs.2.1, hs.2.2]
      cases hc : s.2.2 with
      | false =>
        refine ⟨τ, s, ?_, K, hs, hj, hh, fun b i i0 i1 => hq hc i i0 i1 b⟩
        rw [bz_ff, if_pos (by decide)]
        cases hb : s.2.1 with
        | false => rw [bz_ff, if_pos (by decide), rZ_1]; rfl
        | true => rw [bz_tt, if_neg (by decide), rZ_0]; rfl
      | true =>
        rw [bz_tt, if_neg (by decide)]
        cases hb : s.2.1 with
        | true =>
          refine ⟨τ, s, ?_, K, hs, hj, hh, fun b => by rw [hb] at b; cases b⟩
          rw [bz_tt, if_neg (by decide), if_neg (by decide), rZ_0, hb]; rfl
        | false =>
          have hs0 : NS m (s.1, s.2.1, false) (sI τ 102 73 (zI 0)) := ⟨fun y y0 y1 => (sI_row _ _ _ _ _ (by decide)).trans (hs.1 y y0 y1), (sI_slot _ _ _ _ (by decide)).trans hs.2.1, sI_same _ _ _ _⟩
          obtain ⟨τ1, s1, w1, w2, a1, K1, hs1, hj1, st⟩ := pass m.toNat 0 (sI τ 102 73 (zI 0)) (s.1, s.2.1, false) (s.1, s.2.1, false) v1 (nlg v2) (by omega) (by decide) (K.sI _ rfl) hs0 hj (Nsp.rf m _ fun i i0 i1 => by omega)
          have nc : s1.2.2 = false := by
            cases z : s1.2.2 with
            | false => rfl
            | true =>
              obtain ⟨y, y0, y1, y2, -⟩ := st.2.2.2.2 rfl z
              have y2 : s.1 y = -1 := y2
              have := cnt_lt (p := fun y => decide (s.1 y ≠ -1)) (q := fun _ => true) (k := m.toNat) (fun _ _ _ _ => rfl) y0 (by omega) rfl (by simpa using y2)
              have := (cnt_nn (fun _ => true) m.toNat).2
              omega
          obtain ⟨e1, e2⟩ := st.2.2.2.1 nc
          have e1 : s1.1 = s.1 := e1
          refine ⟨τ1, s1, ?_, K1, hs1, hj1, by rw [e1]; exact hh, fun b i i0 i1 => by rw [e1]; exact e2 b i i0 i1⟩
          rw [bz_ff, if_pos (by decide), if_pos (Or.inl rfl), zI_0, a1, f_M_canBeBy_39_eq, hs1.2.1, hs1.2.2, nc, bz_ff, if_pos (by decide)]
          cases s1.2.1 with
          | false => rw [bz_ff, if_pos (by decide), rZ_1]; rfl
          | true => rw [bz_tt, if_neg (by decide), rZ_0]; rfl
    | succ k ih =>
      intro τ s v1 v2 v3 hk K hs hj hh hq
      rw [f_M_canBeBy_39_eq, hs.2.1, hs.2.2]
      cases hc : s.2.2 with
      | false =>
        refine ⟨τ, s, ?_, K, hs, hj, hh, fun b i i0 i1 => hq hc i i0 i1 b⟩
        rw [bz_ff, if_pos (by decide)]
        cases hb : s.2.1 with
        | false => rw [bz_ff, if_pos (by decide), rZ_1]; rfl
        | true => rw [bz_tt, if_neg (by decide), rZ_0]; rfl
      | true =>
        rw [bz_tt, if_neg (by decide)]
        cases hb : s.2.1 with
        | true =>
          refine ⟨τ, s, ?_, K, hs, hj, hh, fun b => by rw [hb] at b; cases b⟩
          rw [bz_tt, if_neg (by decide), if_neg (by decide), rZ_0, hb]; rfl
        | false =>
          have hs0 : NS m (s.1, s.2.1, false) (sI τ 102 73 (zI 0)) := ⟨fun y y0 y1 => (sI_row _ _ _ _ _ (by decide)).trans (hs.1 y y0 y1), (sI_slot _ _ _ _ (by decide)).trans hs.2.1, sI_same _ _ _ _⟩
          obtain ⟨τ1, s1, w1, w2, a1, K1, hs1, hj1, st⟩ := pass m.toNat 0 (sI τ 102 73 (zI 0)) (s.1, s.2.1, false) (s.1, s.2.1, false) v1 (nlg v2) (by omega) (by decide) (K.sI _ rfl) hs0 hj (Nsp.rf m _ fun i i0 i1 => by omega)
          have hh1 : s1.1 h = x := (st.1 h h0 h1 (by show s.1 h ≠ -1; omega)).trans hh
          have mono : ∀ y, 0 ≤ y → y < m → s.1 y ≠ -1 → s1.1 y = s.1 y := st.1
          rw [bz_ff, if_pos (by decide), if_pos (Or.inl rfl)]
          rw [zI_0]
          cases z : s1.2.2 with
          | true =>
            obtain ⟨y, y0, y1, y2, y3⟩ := st.2.2.2.2 rfl z
            have y2 : s.1 y = -1 := y2
            have := cnt_lt (p := fun y => decide (s.1 y ≠ -1)) (q := fun y => decide (s1.1 y ≠ -1)) (k := m.toNat) (fun i i0 i1 q => by
              have q := of_decide_eq_true q
              exact decide_eq_true (by rw [mono i i0 (by omega) q]; exact q)) y0 (by omega) (decide_eq_true y3) (by simpa using y2)
            obtain ⟨τ2, s2, b1, b2⟩ := ih τ1 s1 w1 w2 (.int (zI m)) (by omega) K1 hs1 hj1 hh1 (fun q => by rw [z] at q; cases q)
            exact ⟨τ2, s2, a1.trans b1, b2⟩
          | false =>
            obtain ⟨e1, e2⟩ := st.2.2.2.1 z
            have e1 : s1.1 = s.1 := e1
            refine ⟨τ1, s1, ?_, K1, hs1, hj1, hh1, fun b i i0 i1 => by rw [e1]; exact e2 b i i0 i1⟩
            rw [a1, f_M_canBeBy_39_eq, hs1.2.1, hs1.2.2, z, bz_ff, if_pos (by decide)]
            cases s1.2.1 with
            | false => rw [bz_ff, if_pos (by decide), rZ_1]; rfl
            | true => rw [bz_tt, if_neg (by decide), rZ_0]; rfl
  -- the start
  have init : ∀ (k : Nat) (i : Int) (τ : Sg), i + k = m → 0 ≤ i → Fr S152 σ τ → (∀ y, 0 ≤ y → y < i → τ.1 152 y.toNat = zI (-1)) → ∃ τ', f_M_canBeBy_2 (d + 5) (zI h) (zI x) (zI i) τ = f_M_canBeBy_2 (d + 5) (zI h) (zI x) (zI m) τ' ∧ Fr S152 σ τ' ∧ ∀ y, 0 ≤ y → y < m → τ'.1 152 y.toNat = zI (-1) := by
    intro k
    induction k with
    | zero =>
      intro i τ hi i0 K hτ
      have : i = m := by omega
      subst this
      exact ⟨τ, rfl, K, hτ⟩
    | succ k ih =>
      intro i τ hi i0 K hτ
      obtain ⟨τ', a1, a2⟩ := ih (i + 1) (sI τ 152 i.toNat (zI (-1))) (by omega) (by omega) (K.sI _ rfl) fun y y0 y1 => by
        by_cases q : y = i
        · subst q; rw [sI_same]
        · rw [sI_slot _ _ _ _ (by omega)]; exact hτ y y0 (by omega)
      refine ⟨τ', ?_, a2⟩
      rw [f_M_canBeBy_2_eq, (hx.f152 K).rl.2.2.1, if_pos (by rw [zI_le (by omega) (by omega)]; omega), bnd_zI i0 (by omega) (by omega), ix_zI i0 (by omega), show (-1 : Int32) = zI (-1) from rfl, show (1 : Int32) = zI 1 from zI_lit 1, zI_add]
      exact a1
  obtain ⟨τ1, a1, K1, hτ1⟩ := init m.toNat 0 σ (by omega) (by decide) (Fr.rf _ _) fun y y0 y1 => by omega
  have c73 : ∃ c, τ1.1 102 73 = c := ⟨_, rfl⟩
  obtain ⟨c73, hc73⟩ := c73
  -- the lowest is named: by hand
  have K2 : Fr S152 σ (sI (sI (sI (sI τ1 102 72 (zI 0)) 152 h.toNat (zI x)) 102 73 (zI 1)) 102 73 (zI 1)) := (((K1.sI _ rfl).sI _ rfl).sI _ rfl).sI _ rfl
  have ns0 : NS m (fun y => if y = h then x else -1, false, true) (sI (sI (sI (sI τ1 102 72 (zI 0)) 152 h.toNat (zI x)) 102 73 (zI 1)) 102 73 (zI 1)) := by
    refine ⟨fun y y0 y1 => ?_, ?_, sI_same _ _ _ _⟩
    · rw [sI_row _ _ _ _ _ (by decide), sI_row _ _ _ _ _ (by decide)]
      show _ = zI (if y = h then x else -1)
      by_cases q : y = h
      · subst q; rw [sI_same, if_pos rfl]
      · rw [sI_slot _ _ _ _ (by omega), sI_row _ _ _ _ _ (by decide), if_neg q]; exact hτ1 y y0 y1
    · rw [sI_slot _ _ _ _ (by decide), sI_slot _ _ _ _ (by decide), sI_row _ _ _ _ _ (by decide), sI_same]; rfl
  have nj0 : NJ n m W H M S F G D h x (fun y => if y = h then x else -1, false, true) := by
    refine ⟨fun y y0 y1 ne => ?_, fun q => by cases q⟩
    have ne : (if y = h then x else -1) ≠ -1 := ne
    show Hs m F G D h y ∧ 0 ≤ (if y = h then x else -1) ∧ (if y = h then x else -1) < n ∧ ∀ g, Cs n m W H M S F G D h g → g h = x → g y = (if y = h then x else -1)
    by_cases q : y = h
    · subst q
      rw [if_pos rfl]
      exact ⟨Hs.rf _ _ _ _ _, x0, x1, fun g _ e => e⟩
    · rw [if_neg q] at ne; exact absurd rfl ne
  obtain ⟨τ2, s2, b1, K3, hs2, hj2, hh2, hq2⟩ := rounds m.toNat _ _ (.int (zI h)) (.int (zI x)) (.int (zI m)) (by have := (cnt_nn (fun y => decide (((fun y => if y = h then x else -1, false, true) : NSt).1 y ≠ -1)) m.toNat).1; omega) K2 ns0 nj0 (if_pos rfl) (fun q => by cases q)
  refine ⟨τ2, !s2.2.1, s2.1, ?_, K3, fun y y0 y1 => ⟨hs2.1 y y0 y1, ?_⟩, fun hb => ?_, fun hb => ?_⟩
  · rw [f_M_canBeBy_eq, zI_0, a1, f_M_canBeBy_2_eq, (hx.f152 K1).rl.2.2.1, if_neg Int32.lt_irrefl, if_pos (Or.inl rfl)]
    show (cV (f_M_isNamed (d + 5) (zI h) (zI x) (sI τ1 102 72 0)) fun σ3 => if (1 : Int32) = 0 ∨ (1 : Int32) = 1 then f_M_canBeBy_39 (d + 5) (.int (zI h)) (.int (zI x)) (.int (zI m)) (sI σ3 102 73 1) else none) = _
    rw [f_M_isNamed_eq, show (-1 : Int32) = zI (-1) from rfl, if_neg (by rw [zI_eq (by omega) (by decide)]; omega), bnd_zI h0 (by omega) (by omega), ix_zI h0 (by omega), zI_0, show (1 : Int32) = zI 1 from zI_lit 1]
    rw [show (sI τ1 102 72 (zI 0)).1 152 h.toNat = zI (-1) from hτ1 h h0 h1, if_pos rfl, bnd_zI h0 (by omega) (by omega), if_pos (Or.inr rfl)]
    dsimp only
    rw [bnd_zI h0 (by omega) (by omega), show (sI (sI (sI τ1 102 72 (zI 0)) 152 h.toNat (zI x)) 102 73 (zI 1)).1 152 h.toNat = zI x from by rw [sI_row _ _ _ _ _ (by decide), sI_same], if_pos rfl, cV_rV, if_pos (Or.inr rfl)]
    exact b1
  · by_cases q : s2.1 y = -1
    · omega
    · have := hj2.1 y y0 y1 q; omega
  · have nb : s2.2.1 = false := by
      cases z : s2.2.1 with
      | false => rfl
      | true => rw [z] at hb; cases hb
    have kp := hq2 nb
    have named : ∀ y, 0 ≤ y → y < m → Hs m F G D h y → s2.1 y ≠ -1 := fun y y0 y1 hy => by
      have key := hy (fun z => 0 ≤ z → z < m → s2.1 z ≠ -1) (fun _ _ => by rw [hh2]; omega) fun i i0 i1 => by
        obtain ⟨-, -, ⟨f0, f1, f2⟩, ⟨g0, g1, g2⟩, d0, d1, d2⟩ := rl.bd n6 i0 i1
        have ok := rl.2.2 i i0 i1
        have fwd : s2.1 i ≠ -1 → KinP m W H C M S F G D i s2.1 ∧ 0 ≤ s2.1 i ∧ s2.1 i < n := fun ne => by
          rcases kp i i0 i1 with z | z
          · exact absurd z ne
          · have := hj2.1 i i0 i1 ne
            exact ⟨z, this.2.1, this.2.2.1⟩
        have fwd2 : ∀ a, 0 ≤ a → a < m → s2.1 a ≠ -1 → KinP m W H C M S F G D a s2.1 ∧ 0 ≤ s2.1 a ∧ s2.1 a < n := fun a a0 a1' ne => by
          rcases kp a a0 a1' with z | z
          · exact absurd z ne
          · have := hj2.1 a a0 a1' ne
            exact ⟨z, this.2.1, this.2.2.1⟩
        have up : ∀ a, 0 ≤ a → a < m → (F i = a ∨ G i = a) → s2.1 a ≠ -1 → s2.1 i ≠ -1 := fun a a0 a1' e ne => by
          obtain ⟨k1, v0, v1⟩ := fwd2 a a0 a1' ne
          have := k1.2.2.2 i i0 i1 e
          obtain ⟨⟨w0, w1, -⟩, c0, c1, -⟩ := nm.2 _ v0 v1
          obtain ⟨-, c2, c3, -⟩ := nm.2 _ w0 w1
          rw [this]
          split <;> omega
        refine ⟨fun f => ⟨fun k z0 z1 => ?_, fun k _ _ => up _ f f1 (Or.inl rfl) (k f f1)⟩, fun f => ⟨fun k z0 z1 => ?_, fun k _ _ => up _ f g1 (Or.inr rfl) (k f g1)⟩, fun f => ⟨fun k z0 z1 => ?_, fun k _ _ => ?_⟩⟩
        · obtain ⟨k1, v0, v1⟩ := fwd (k i0 i1)
          obtain ⟨-, -, -, u3, u4, -⟩ := nm.2 _ v0 v1
          obtain ⟨⟨-, -, u5, u6, -⟩, -⟩ := nm.2 _ u3 u4
          rw [k1.2.1 f]; omega
        · obtain ⟨k1, v0, v1⟩ := fwd (k i0 i1)
          obtain ⟨-, -, -, u3, u4, -⟩ := nm.2 _ v0 v1
          rw [k1.1 f]; omega
        · obtain ⟨k1, v0, v1⟩ := fwd (k i0 i1)
          have := spF_bd nm (s := S i) v0 v1
          rw [k1.2.2.1 f]; omega
        · obtain ⟨k1, v0, v1⟩ := fwd2 (D i) f d1 (k f d1)
          have dd : D (D i) = i := by
            rcases ok.2.2.2.2.2 with z | z
            · omega
            · exact z.2.2.1
          have := k1.2.2.1 (by omega)
          rw [dd] at this
          have sb := spF_bd nm (s := S (D i)) v0 v1
          rw [this]; omega
      exact key y0 y1
    refine ⟨fun p p_0 p_1 hp => ?_, hh2, fun g' cg gh y y0 y1 hy => (hj2.1 y y0 y1 (named y y0 y1 hy)).2.2.2 g' cg gh⟩
    have ne := named p p_0 p_1 hp
    obtain ⟨-, v0, v1, -⟩ := hj2.1 p p_0 p_1 ne
    rcases kp p p_0 p_1 with z | z
    · exact absurd z ne
    · exact ⟨v0, v1, z.2.1, z.1, z.2.2.1⟩
  · have yb : s2.2.1 = true := by
      cases z : s2.2.1 with
      | true => rfl
      | false => rw [z] at hb; cases hb
    exact hj2.2 yb
