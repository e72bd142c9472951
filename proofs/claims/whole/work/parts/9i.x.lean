/-! settle: nameAll -/
theorem PX.f78 {r p : Nat} {n m : Int} {W H C M S T F G D : Int → Int} {σ σ' : Sg} (h : PX r p n m W H C M S T F G D σ) (K : Fr S78 σ σ') : PX r p n m W H C M S T F G D σ' := h.fr (K.mono fun a k e => by simp only [SHo, Bool.or_eq_false_iff] at e; exact e.1.1.1.2)
theorem nameAll_pass {r p : Nat} {n m : Int} {W H C M S T F G D hd : Int → Int} {σ : Sg} (hx : PX r p n m W H C M S T F G D σ) {d : Nat} {i : Int} (i0 : 0 ≤ i) {w : Int32} : ∀ (k : Nat) (q : Int) (τ : Sg) (g0 g : Int → Int) (b : Bool) (v : Value), q + k = m → 0 ≤ q → Fr S78 σ τ → (∀ y, 0 ≤ y → y < m → τ.1 78 y.toNat = zI (g y)) → JA n m W H M S F G D hd i g → Nsp m (g0, false, false) (g, false, b) (fun g => ∀ j, 0 ≤ j → j < q → EPn F G D g j) → ∃ τ' g' b' v', f_Houses_nameAll_68 (d + 2) r p v (bz b) w (zI q) τ = f_Houses_nameAll_48 (d + 2) r p v' (bz b') (w + zI 1) (.int (zI m)) τ' ∧ Fr S78 σ τ' ∧ (∀ y, 0 ≤ y → y < m → τ'.1 78 y.toNat = zI (g' y)) ∧ JA n m W H M S F G D hd i g' ∧ Nsp m (g0, false, false) (g', false, b') (fun g => ∀ j, 0 ≤ j → j < m → EPn F G D g j) := by
  obtain ⟨nm, ⟨n0, n6⟩, m0, m24⟩ := hx.nm
  have hP := hx.1
  intro k
  induction k with
  | zero =>
    intro q τ g0 g b v hq q0 K hg hj st
    have : q = m := by omega
    subst this
    have em : τ.1 p 0 = zI q := by rw [show τ.1 p 0 = zI (rd τ p 0) from rd_k τ p 0, (hx.f78 K).2.2.2.2.1.2.1]
    exact ⟨τ, g, b, v, by rw [f_Houses_nameAll_68_eq, gfI_of hP.s0, em, if_neg Int32.lt_irrefl, show (1 : Int32) = zI 1 from zI_lit 1], K, hg, hj, st⟩
  | succ k ih =>
    intro q τ g0 g b v hq q0 K hg hj st
    have q1 : q < m := by omega
    have h1 := hx.f78 K
    have em : τ.1 p 0 = zI m := by rw [show τ.1 p 0 = zI (rd τ p 0) from rd_k τ p 0, h1.2.2.2.2.1.2.1]
    obtain ⟨s01, -, ⟨f0, f1, f2⟩, ⟨g0', g1, g2⟩, d0, d1, d2⟩ := hx.2.2.2.2.2.bd n6 q0 q1
    have hc := h1.2.2.2.2.1.2.2
    obtain ⟨τ1, k1, b1, a1, K1, c1, j1, t1⟩ := stepAll h1 (d := d) i0 (b := b) hg hj q0 q1 (o := F q) ⟨f0, f1⟩ (st := 0) (Or.inl ⟨rfl, rfl⟩) (Or.inl rfl)
    have h2 := h1.f78 K1
    obtain ⟨τ2, k2, b2, a2, K2, c2, j2, t2⟩ := stepAll h2 (d := d) i0 (b := b || b1) c1 j1 q0 q1 (o := G q) ⟨g0', g1⟩ (st := 1) (Or.inr (Or.inl ⟨rfl, rfl⟩)) (Or.inr (Or.inl rfl))
    have h3 := h2.f78 K2
    obtain ⟨τ3, k3, b3, a3, K3, c3, j3, t3⟩ := stepAll h3 (d := d) i0 (b := b || b1 || b2) c2 j2 q0 q1 (o := D q) ⟨d0, d1⟩ (st := if S q = 0 then 3 else 2) (Or.inr (Or.inr ⟨rfl, rfl⟩)) (by by_cases z : S q = 0 <;> simp [z])
    obtain ⟨τ', g', b', v', u1, u2⟩ := ih (q + 1) τ3 g0 k3 (b || b1 || b2 || b3) (nlg (nlg (nlg v))) (by omega) (by omega) (((K.tr K1).tr K2).tr K3) c3 j3 ((((st.tr t1).tr t2).tr t3).mono fun e j jj0 jj1 => by
      by_cases z : j = q
      · subst z
        exact ⟨e.1.1.2, e.1.2, e.2⟩
      · exact e.1.1.1 j jj0 (by omega))
    refine ⟨τ', g', b', v', ?_, u2⟩
    rw [f_Houses_nameAll_68_eq, gfI_of hP.s0, em, if_pos (by rw [zI_le (by omega) (by omega)]; exact q1), gfS_of hP.s0, ofs_4_3, ldi_of hP.s3 q0 (by omega) (by omega), (hc q q0).2.2.1, zI_0, a1, cI_rI, gfS_of hP.s0, ofs_4_4, ldi_of hP.s4 q0 (by omega) (by omega), (h2.2.2.2.2.1.2.2 q q0).2.2.2.1, show (1 : Int32) = zI 1 from zI_lit 1, a2, cI_rI, gfS_of hP.s0, ofs_4_5, ldi_of hP.s5 q0 (by omega) (by omega), (h3.2.2.2.2.1.2.2 q q0).2.2.2.2, gfS_of hP.s0, ofs_4_1, ldi_of hP.s1 q0 (by omega) (by omega), (h3.2.2.2.2.1.2.2 q q0).1, show (3 : Int32) = zI 3 from zI_lit 3, show (2 : Int32) = zI 2 from zI_lit 2, zI_add]
    by_cases z : S q = 0
    · rw [if_pos z] at a3
      rw [if_pos (by rw [zI_eq (by omega) (by decide)]; exact z), a3, cI_rI, bz_or, bz_or, bz_or]
      exact u1
    · rw [if_neg z] at a3
      rw [if_neg (by rw [zI_eq (by omega) (by decide)]; exact z), a3, cI_rI, bz_or, bz_or, bz_or]
      exact u1
theorem nameAll_sp {r p : Nat} {n m : Int} {W H C M S T F G D hd : Int → Int} {σ : Sg} (hx : PX r p n m W H C M S T F G D σ) (ho : HdOk m F G D hd) (hh : ∀ y, 0 ≤ y → y < m → σ.1 77 y.toNat = zI (hd y)) {d : Nat} {i : Int} (i0 : 0 ≤ i) (i1 : i < n) : ∃ σ' g, f_Houses_nameAll (d + 3) r p (zI i) σ = rV σ' ∧ Fr S78 σ σ' ∧ (∀ y, 0 ≤ y → y < m → σ'.1 78 y.toNat = zI (g y)) ∧ JA n m W H M S F G D hd i g ∧ ∀ q, 0 ≤ q → q < m → EPn F G D g q := by
  obtain ⟨nm, ⟨n0, n6⟩, m0, m24⟩ := hx.nm
  have hP := hx.1
  have e0 : ∀ τ, Fr S78 σ τ → τ.1 p 0 = zI m := fun τ K => by rw [show τ.1 p 0 = zI (rd τ p 0) from rd_k τ p 0, (hx.f78 K).2.2.2.2.1.2.1]
  have init : ∀ (k : Nat) (q : Int) (τ : Sg) (v w : Value), q + k = m → 0 ≤ q → Fr S78 σ τ → (∀ y, 0 ≤ y → y < q → τ.1 78 y.toNat = zI (if hd y = y then i else -1)) → ∃ τ', f_Houses_nameAll_3 (d + 2) r p (zI i) (zI q) v w τ = f_Houses_nameAll_48 (d + 2) r p (.int (zI i)) (zI 1) (zI 0) w τ' ∧ Fr S78 σ τ' ∧ ∀ y, 0 ≤ y → y < m → τ'.1 78 y.toNat = zI (if hd y = y then i else -1) := by
    intro k
    induction k with
    | zero =>
      intro q τ v w hq q0 K hτ
      have : q = m := by omega
      subst this
      exact ⟨τ, by rw [f_Houses_nameAll_3_eq, gfI_of hP.s0, e0 τ K, if_neg Int32.lt_irrefl, zI_0, show (1 : Int32) = zI 1 from zI_lit 1], K, hτ⟩
    | succ k ih =>
      intro q τ v w hq q0 K hτ
      have q1 : q < m := by omega
      have ob := ho q q0 q1
      have e77 : τ.1 77 q.toNat = zI (hd q) := (K.2 _ _ rfl).trans (hh q q0 q1)
      obtain ⟨τ', a1, a2⟩ := ih (q + 1) (sI τ 78 q.toNat (zI (if hd q = q then i else -1))) v w (by omega) (by omega) (K.sI _ rfl) fun y y0 y1 => by
        by_cases u : y = q
        · subst u; rw [sI_same]
        · rw [sI_slot _ _ _ _ (by omega)]; exact hτ y y0 (by omega)
      refine ⟨τ', ?_, a2⟩
      rw [f_Houses_nameAll_3_eq, gfI_of hP.s0, e0 τ K, if_pos (by rw [zI_le (by omega) (by omega)]; exact q1)]
      simp only [bnd_zI q0 (show q < (24 : Nat) by omega) (show q < 2147483648 by omega), ix_zI q0 (show q < 2147483648 by omega), e77]
      rw [show (-1 : Int32) = zI (-1) from rfl, show (1 : Int32) = zI 1 from zI_lit 1, zI_add]
      by_cases z : hd q = q
      · rw [if_pos z] at a1
        rw [if_pos (congrArg zI z)]; exact a1
      · rw [if_neg z] at a1
        rw [if_neg (by rw [zI_eq (by omega) (by omega)]; exact z)]; exact a1
  have rounds : ∀ (k : Nat) (t : Int) (τ : Sg) (g : Int → Int) (b : Bool) (v w : Value), t + k = m → 0 ≤ t → Fr S78 σ τ → (∀ y, 0 ≤ y → y < m → τ.1 78 y.toNat = zI (g y)) → JA n m W H M S F G D hd i g → (b = true → 0 < m → t + 1 ≤ cnt (fun y => decide (g y ≠ -1)) m.toNat) → (b = false → ∀ q, 0 ≤ q → q < m → EPn F G D g q) → ∃ τ' g', f_Houses_nameAll_48 (d + 2) r p v (bz b) (zI t) w τ = rV τ' ∧ Fr S78 σ τ' ∧ (∀ y, 0 ≤ y → y < m → τ'.1 78 y.toNat = zI (g' y)) ∧ JA n m W H M S F G D hd i g' ∧ ∀ q, 0 ≤ q → q < m → EPn F G D g' q := by
    intro k
    induction k with
    | zero =>
      intro t τ g b v w ht t0 K hg hj hb hc
      have : t = m := by omega
      subst this
      refine ⟨τ, g, by rw [f_Houses_nameAll_48_eq, gfI_of hP.s0, e0 τ K, if_neg Int32.lt_irrefl], K, hg, hj, ?_⟩
      cases b with
      | false => exact hc rfl
      | true =>
        intro q q0 q1
        have := hb rfl (by omega)
        have := (cnt_nn (fun y => decide (g y ≠ -1)) t.toNat).2
        omega
    | succ k ih =>
      intro t τ g b v w ht t0 K hg hj hb hc
      have t1 : t < m := by omega
      rw [f_Houses_nameAll_48_eq, gfI_of hP.s0, e0 τ K, if_pos (by rw [zI_le (by omega) (by omega)]; exact t1)]
      cases b with
      | false =>
        rw [bz_ff, if_pos (by decide)]
        exact ⟨τ, g, rfl, K, hg, hj, hc rfl⟩
      | true =>
        rw [bz_tt, if_neg (by decide)]
        obtain ⟨τ1, g1, b1, v1, a1, K1, c1, j1, s1⟩ := nameAll_pass hx (d := d) (hd := hd) i0 (w := zI t) m.toNat 0 τ g g false (nlg v) (by omega) (by decide) K hg hj (Nsp.rf m _ fun j j0 j1 => by omega)
        obtain ⟨τ2, g2, u1, u2⟩ := ih (t + 1) τ1 g1 b1 v1 (.int (zI m)) (by omega) (by omega) K1 c1 j1 (fun z mp => by
          have h1 := hb rfl mp
          obtain ⟨y, y0, y1, y2, y3⟩ := s1.2.2.2.2 rfl z
          have y2 : g y = -1 := y2
          have mono : ∀ y, 0 ≤ y → y < m → g y ≠ -1 → g1 y = g y := s1.1
          have := cnt_lt (p := fun y => decide (g y ≠ -1)) (q := fun y => decide (g1 y ≠ -1)) (k := m.toNat) (fun i i0 i1 q => by
            have q := of_decide_eq_true q
            exact decide_eq_true (by rw [mono i i0 (by omega) q]; exact q)) y0 (by omega) (decide_eq_true y3) (by simpa using y2)
          omega) (fun z q q0 q1 => by
          obtain ⟨e1, e2⟩ := s1.2.2.2.1 z
          have e1 : g1 = g := e1
          rw [e1]; exact e2 rfl q q0 q1)
        refine ⟨τ2, g2, ?_, u2⟩
        rw [zI_0]
        have a1 : f_Houses_nameAll_68 (d + 2) r p (nlg v) (zI 0) (zI t) (zI 0) τ = _ := a1
        rw [zI_add] at a1
        exact a1.trans u1
  obtain ⟨τ1, a1, K1, c1⟩ := init m.toNat 0 σ .null .null (by omega) (by decide) (Fr.rf _ _) fun y y0 y1 => by omega
  obtain ⟨τ2, g2, u1, u2⟩ := rounds m.toNat 0 τ1 (fun y => if hd y = y then i else -1) true (.int (zI i)) .null (by omega) (by decide) K1 c1 ⟨fun y y0 y1 => by
      show -1 ≤ (if hd y = y then i else -1) ∧ (if hd y = y then i else -1) < n
      split <;> omega, fun y y0 y1 e => if_pos e, fun h c h0 h1 hh cs ci y y0 y1 hy ne => by
      have ne : (if hd y = y then i else -1) ≠ -1 := ne
      show (if hd y = y then i else -1) = c y
      by_cases z : hd y = y
      · have l1 := (ho h h0 h1).2.2.2 y y0 y1 hy
        have l2 := (ho y y0 y1).2.2.2 h h0 h1 hy.sy
        have : y = h := by omega
        subst this
        rw [if_pos z, ci]
      · rw [if_neg z] at ne; exact absurd rfl ne⟩ (fun _ mp => by
      have h0 := ho 0 (by decide) mp
      have := cnt_lt (p := fun _ => false) (q := fun y => decide ((if hd y = y then i else -1) ≠ -1)) (k := m.toNat) (fun i i0 i1 q => by cases q) (z := 0) (by decide) (by omega) (decide_eq_true (by rw [if_pos (by omega)]; omega)) rfl
      have := (cnt_nn (fun _ => false) m.toNat).1
      omega) (fun z => by cases z)
  refine ⟨τ2, g2, ?_, u2⟩
  rw [f_Houses_nameAll_eq, zI_0]
  exact a1.trans u1
