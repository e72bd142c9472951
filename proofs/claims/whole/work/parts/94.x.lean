/-! names that follow, in the reference -/
def S152 (a k : Nat) : Bool := a == 152 || (a == 102 && (k == 72 || k == 73))
theorem HX.f152 {r p : Nat} {n m : Int} {W H C M S T F G D : Int → Int} {σ σ' : Sg} (h : HX r p n m W H C M S T F G D σ) (K : Fr S152 σ σ') : HX r p n m W H C M S T F G D σ' := by
  have hr : r = 7 ∨ r = 12 := h.2.2.1.1.1
  have hp : p = 17 ∨ p = 25 := h.1
  refine h.fr K ?_ ?_
  · intro a k; simp [DRoll, S152]; omega
  · intro a k; simp [DRule, S152]; omega
def NSt : Type := (Int → Int) × Bool × Bool
def NS (m : Int) (s : NSt) (τ : Sg) : Prop := (∀ y, 0 ≤ y → y < m → τ.1 152 y.toNat = zI (s.1 y)) ∧ τ.1 102 72 = bz s.2.1 ∧ τ.1 102 73 = bz s.2.2
def Nsp (m : Int) (s s' : NSt) (P : (Int → Int) → Prop) : Prop := (∀ y, 0 ≤ y → y < m → s.1 y ≠ -1 → s'.1 y = s.1 y) ∧ (s.2.1 = true → s'.2.1 = true) ∧ (s.2.2 = true → s'.2.2 = true) ∧ (s'.2.2 = false → s'.1 = s.1 ∧ (s'.2.1 = false → P s.1)) ∧ (s.2.2 = false → s'.2.2 = true → ∃ y, 0 ≤ y ∧ y < m ∧ s.1 y = -1 ∧ s'.1 y ≠ -1)
theorem Nsp.rf (m : Int) (s : NSt) {P : (Int → Int) → Prop} (h : P s.1) : Nsp m s s P := ⟨fun _ _ _ _ => rfl, id, id, fun _ => ⟨rfl, fun _ => h⟩, fun a b => by rw [a] at b; cases b⟩
theorem Nsp.tr {m : Int} {s s1 s2 : NSt} {P Q : (Int → Int) → Prop} (h : Nsp m s s1 P) (h' : Nsp m s1 s2 Q) : Nsp m s s2 (fun g => P g ∧ Q g) := by
  obtain ⟨a1, a2, a3, a4, a5⟩ := h
  obtain ⟨b1, b2, b3, b4, b5⟩ := h'
  refine ⟨fun y y0 y1 q => ?_, fun q => b2 (a2 q), fun q => b3 (a3 q), fun q => ?_, fun q q' => ?_⟩
  · have := a1 y y0 y1 q
    rw [b1 y y0 y1 (by rw [this]; exact q), this]
  · have c1 : s1.2.2 = false := by
      cases z : s1.2.2 with
      | false => rfl
      | true => rw [b3 z] at q; cases q
    obtain ⟨e2, f2⟩ := b4 q
    obtain ⟨e1, f1⟩ := a4 c1
    refine ⟨e2.trans e1, fun z => ?_⟩
    have d1 : s1.2.1 = false := by
      cases y : s1.2.1 with
      | false => rfl
      | true => rw [b2 y] at z; cases z
    exact ⟨f1 d1, by rw [← e1]; exact f2 z⟩
  · cases z : s1.2.2 with
    | true =>
      obtain ⟨y, y0, y1, y2, y3⟩ := a5 q z
      exact ⟨y, y0, y1, y2, by rw [b1 y y0 y1 y3]; exact y3⟩
    | false =>
      obtain ⟨y, y0, y1, y2, y3⟩ := b5 z q'
      exact ⟨y, y0, y1, by rw [← (a4 z).1]; exact y2, y3⟩
theorem Nsp.mono {m : Int} {s s' : NSt} {P Q : (Int → Int) → Prop} (h : Nsp m s s' P) (q : P s.1 → Q s.1) : Nsp m s s' Q := ⟨h.1, h.2.1, h.2.2.1, fun z => ⟨(h.2.2.2.1 z).1, fun y => q ((h.2.2.2.1 z).2 y)⟩, h.2.2.2.2⟩
/-- what is named is right -/
def NJ (n m : Int) (W H M S F G D : Int → Int) (h x : Int) (s : NSt) : Prop := (∀ y, 0 ≤ y → y < m → s.1 y ≠ -1 → Hs m F G D h y ∧ 0 ≤ s.1 y ∧ s.1 y < n ∧ ∀ g, Cs n m W H M S F G D h g → g h = x → g y = s.1 y) ∧ (s.2.1 = true → ¬ ∃ g, Cs n m W H M S F G D h g ∧ g h = x)
theorem isNamed_sp {τ : Sg} {d : Nat} {n m : Int} {W H M S F G D : Int → Int} {h x : Int} {s : NSt} (m24 : m ≤ 24) (n6 : n ≤ 6) (hs : NS m s τ) (hj : NJ n m W H M S F G D h x s) {q v : Int} (q0 : -1 ≤ q) (q1 : q < m) (v0 : 0 ≤ v) (v1 : v < n) (hq : 0 ≤ q → Hs m F G D h q ∧ ∀ g, Cs n m W H M S F G D h g → g h = x → g q = v) : ∃ τ' s', f_M_isNamed (d + 1) (zI q) (zI v) τ = rV τ' ∧ Fr S152 τ τ' ∧ NS m s' τ' ∧ NJ n m W H M S F G D h x s' ∧ Nsp m s s' (fun g => q = -1 ∨ g q = v) := by
  obtain ⟨s1, s2, s3⟩ := hs
  obtain ⟨j1, j2⟩ := hj
  rw [f_M_isNamed_eq, show (-1 : Int32) = zI (-1) from rfl]
  by_cases z : q = -1
  · rw [if_pos (congrArg zI z)]
    exact ⟨τ, s, rfl, Fr.rf _ _, ⟨s1, s2, s3⟩, ⟨j1, j2⟩, Nsp.rf m s (Or.inl z)⟩
  have q0' : 0 ≤ q := by omega
  obtain ⟨hq1, hq2⟩ := hq q0'
  have e := s1 q q0' q1
  have gb : s.1 q = -1 ∨ 0 ≤ s.1 q ∧ s.1 q < n := by
    by_cases y : s.1 q = -1
    · exact Or.inl y
    · exact Or.inr ⟨(j1 q q0' q1 y).2.1, (j1 q q0' q1 y).2.2.1⟩
  rw [if_neg (by rw [zI_eq (by omega) (by decide)]; exact z), bnd_zI q0' (by omega) (by omega), ix_zI q0' (by omega), e]
  by_cases y : s.1 q = -1
  · rw [if_pos (congrArg zI y), bnd_zI q0' (by omega) (by omega)]
    simp only [show ((1 : Int32) = 0 ∨ (1 : Int32) = 1) from Or.inr rfl, if_true, bnd_zI q0' (show q < (24 : Nat) by omega) (show q < 2147483648 by omega), show (1 : Int32) = zI 1 from zI_lit 1]
    rw [show (sI (sI τ 152 q.toNat (zI v)) 102 73 (zI 1)).1 152 q.toNat = zI v from by rw [sI_row _ _ _ _ _ (by decide), sI_same], if_pos rfl]
    refine ⟨_, (fun i => if i = q then v else s.1 i, s.2.1, true), rfl, ((Fr.rf _ τ).sI _ rfl).sI _ rfl, ⟨fun i i0 i1 => ?_, ?_, ?_⟩, ⟨fun i i0 i1 ne => ?_, j2⟩, fun i i0 i1 ne => ?_, id, fun _ => rfl, fun w => (by cases w), fun _ _ => ⟨q, q0', q1, y, ?_⟩⟩
    · rw [sI_row _ _ _ _ _ (by decide)]
      show _ = zI (if i = q then v else s.1 i)
      by_cases w : i = q
      · subst w; rw [sI_same, if_pos rfl]
      · rw [sI_slot _ _ _ _ (by omega), if_neg w]; exact s1 i i0 i1
    · rw [sI_slot _ _ _ _ (by decide), sI_row _ _ _ _ _ (by decide)]; exact s2
    · rw [sI_same]; rfl
    · have ne : (if i = q then v else s.1 i) ≠ -1 := ne
      show Hs m F G D h i ∧ 0 ≤ (if i = q then v else s.1 i) ∧ (if i = q then v else s.1 i) < n ∧ ∀ g, Cs n m W H M S F G D h g → g h = x → g i = (if i = q then v else s.1 i)
      by_cases w : i = q
      · subst w; rw [if_pos rfl]; exact ⟨hq1, v0, v1, hq2⟩
      · rw [if_neg w] at ne ⊢; exact j1 i i0 i1 ne
    · show (if i = q then v else s.1 i) = s.1 i
      have : i ≠ q := fun w => ne (w ▸ y)
      rw [if_neg this]
    · show (if q = q then v else s.1 q) ≠ -1
      rw [if_pos rfl]; omega
  · rw [if_neg (by rw [zI_eq (by omega) (by decide)]; exact y), bnd_zI q0' (by omega) (by omega)]
    by_cases w : s.1 q = v
    · rw [if_pos (congrArg zI w)]
      exact ⟨τ, s, rfl, Fr.rf _ _, ⟨s1, s2, s3⟩, ⟨j1, j2⟩, Nsp.rf m s (Or.inr w)⟩
    · rw [if_neg (by rw [zI_eq (by omega) (by omega)]; exact w), if_pos (Or.inr rfl)]
      refine ⟨_, (s.1, true, s.2.2), rfl, (Fr.rf _ τ).sI _ rfl, ⟨fun i i0 i1 => ?_, ?_, ?_⟩, ⟨j1, fun _ ⟨g, g1, g2⟩ => ?_⟩, fun _ _ _ _ => rfl, fun _ => rfl, id, fun _ => ⟨rfl, fun u => (by cases u)⟩, fun a b => ?_⟩
      · rw [sI_row _ _ _ _ _ (by decide)]; exact s1 i i0 i1
      · rw [sI_same]; exact zI_lit 1
      · rw [sI_slot _ _ _ _ (by decide)]; exact s3
      · exact w (((j1 q q0' q1 y).2.2.2 g g1 g2).symm.trans (hq2 g g1 g2))
      · have b : s.2.2 = true := b
        rw [a] at b; cases b
/-- one with his kin -/
def KinP (m : Int) (W H C M S F G D : Int → Int) (p : Int) (g : Int → Int) : Prop := (0 ≤ G p → g (G p) = M (g p)) ∧ (0 ≤ F p → g (F p) = H (M (g p))) ∧ (0 ≤ D p → g (D p) = spF W H (S p) (g p)) ∧ ∀ c, 0 ≤ c → c < m → (F c = p ∨ G c = p) → g c = if S p = 1 then C (g p) else C (W (g p))
theorem namesKin_sp {r p0 : Nat} {n m : Int} {W H C M S T F G D : Int → Int} {τ : Sg} (hx : HX r p0 n m W H C M S T F G D τ) {d : Nat} {h x : Int} {s : NSt} (hs : NS m s τ) (hj : NJ n m W H M S F G D h x s) {p : Int} (p_0 : 0 ≤ p) (p_1 : p < m) (ne : s.1 p ≠ -1) : ∃ τ' s', f_M_namesKin (d + 4) (zI p) τ = rV τ' ∧ Fr S152 τ τ' ∧ NS m s' τ' ∧ NJ n m W H M S F G D h x s' ∧ Nsp m s s' (KinP m W H C M S F G D p) := by
  obtain ⟨rl, rm, e69, m0, m24⟩ := hx.rl
  obtain ⟨nm, ⟨n0, n6⟩, mr, e5⟩ := hx.nm
  obtain ⟨hp, x0, x1, hg⟩ := hj.1 p p_0 p_1 ne
  obtain ⟨S01, -, ⟨f0, f1, f2⟩, ⟨g0, g1, g2⟩, d0, d1, d2⟩ := rl.bd n6 p_0 p_1
  obtain ⟨c1, -, c3, c4, c5⟩ := rm.2 p p_0 p_1
  generalize hX : s.1 p = X at x0 x1 hg ne
  obtain ⟨⟨w0, w1, h0, h1, wh, hw⟩, ch0, ch1, mm0, mm1, mc, cm⟩ := nm.2 X x0 x1
  obtain ⟨⟨-, -, hm0, hm1, -⟩, -⟩ := nm.2 _ mm0 mm1
  obtain ⟨-, cw0, cw1, -⟩ := nm.2 _ w0 w1
  have eX := hs.1 p p_0 p_1
  rw [hX] at eX
  -- mother
  obtain ⟨τ1, s1, a1, F1, hs1, hj1, st1⟩ := isNamed_sp (d := d + 2) m24 n6 hs hj (q := G p) (v := M X) g0 g1 mm0 mm1 (fun q => ⟨hp.tr (Hs.g p_0 p_1 q), fun g cg gh => by
    have := (cg p p_0 p_1 hp).2.2.2.1 q
    rw [this, hg g cg gh]⟩)
  have hx1 := hx.f152 F1
  -- father
  obtain ⟨τ2, s2, a2, F2, hs2, hj2, st2⟩ := isNamed_sp (d := d + 2) m24 n6 hs1 hj1 (q := F p) (v := H (M X)) f0 f1 hm0 hm1 (fun q => ⟨hp.tr (Hs.f p_0 p_1 q), fun g cg gh => by
    have := (cg p p_0 p_1 hp).2.2.1 q
    rw [this, hg g cg gh]⟩)
  have hx2 := hx1.f152 F2
  -- spouse
  have spb := spF_bd nm (s := S p) x0 x1
  obtain ⟨τ3, s3, a3, F3, hs3, hj3, st3⟩ := isNamed_sp (d := d + 2) m24 n6 hs2 hj2 (q := D p) (v := spF W H (S p) X) d0 d1 spb.1 spb.2 (fun q => ⟨hp.tr (Hs.d p_0 p_1 q), fun g cg gh => by
    have := (cg p p_0 p_1 hp).2.2.2.2 q
    rw [this, hg g cg gh]; rfl⟩)
  have hx3 := hx2.f152 F3
  obtain ⟨cs, k1, k2⟩ := hx3.ch (d := d + 2) p_0 p_1
  -- children
  have cv : 0 ≤ (if S p = 1 then C X else C (W X)) ∧ (if S p = 1 then C X else C (W X)) < n := by split <;> omega
  have kids : ∀ (k : Nat) (c : Int) (υ : Sg) (t : NSt), c + k = m → 0 ≤ c → Fr S152 τ3 υ → NS m t υ → NJ n m W H M S F G D h x t → Nsp m s3 t (fun g => ∀ i, 0 ≤ i → i < c → (F i = p ∨ G i = p) → g i = if S p = 1 then C X else C (W X)) → ∃ υ' t', f_M_namesKin_80 (d + 3) (zI p) (zI X) cs (zI c) υ = rV υ' ∧ Fr S152 τ3 υ' ∧ NS m t' υ' ∧ NJ n m W H M S F G D h x t' ∧ Nsp m s3 t' (fun g => ∀ i, 0 ≤ i → i < m → (F i = p ∨ G i = p) → g i = if S p = 1 then C X else C (W X)) := by
    intro k
    induction k with
    | zero =>
      intro c υ t hc c0 K ht hjt st
      have : c = m := by omega
      subst this
      refine ⟨υ, t, ?_, K, ht, hjt, st⟩
      rw [f_M_namesKin_80_eq, (hx3.f152 K).rl.2.2.1, if_neg Int32.lt_irrefl]
    | succ k ih =>
      intro c υ t hc c0 K ht hjt st
      have c1' : c < m := by omega
      have hxu := hx3.f152 K
      have e42 := (hxu.rl.2.1.2 p p_0 p_1).1
      have mru := hxu.nm.2.2.1
      have y1 : υ.1 107 X.toNat = zI (C X) := by rw [rd_k, toNat_c x0, (mru.1.2.2.2 X x0 x1).2.1]
      have y2 : υ.1 106 X.toNat = zI (W X) := by rw [rd_k, toNat_c x0, (mru.1.2.2.2 X x0 x1).1]
      have y3 : υ.1 107 (W X).toNat = zI (C (W X)) := by rw [rd_k, toNat_c w0, (mru.1.2.2.2 _ w0 w1).2.1]
      have hd : f_M_namesKin_80 (d + 3) (zI p) (zI X) cs (zI c) υ = if bz (gb cs c) = zI 0 then f_M_namesKin_80 (d + 3) (zI p) (zI X) cs (zI (c + 1)) υ else cV (f_M_isNamed (d + 3) (zI c) (zI (if S p = 1 then C X else C (W X))) υ) fun σ3 => f_M_namesKin_80 (d + 3) (zI p) (zI X) cs (zI (c + 1)) σ3 := by
        rw [f_M_namesKin_80_eq, hxu.rl.2.2.1, if_pos (by rw [zI_le (by omega) (by omega)]; exact c1'), hasM_sp ⟨c0, by omega⟩, cI_rI, bnd_zI p_0 (by omega) (by omega), ix_zI p_0 (by omega), e42, bnd_zI x0 (by omega) (by omega), bnd_zI x0 (by omega) (by omega), ix_zI x0 (by omega), y1, y2, bnd_zI w0 (by omega) (by omega), ix_zI w0 (by omega), y3, zI_0, show (1 : Int32) = zI 1 from zI_lit 1, zI_add]
        by_cases z : S p = 1
        · rw [if_pos (congrArg zI z), if_pos z]
        · rw [if_neg (show ¬ zI (S p) = zI 1 from by rw [zI_eq (by omega) (by decide)]; exact z), if_neg z]
      rw [hd]
      have kc := k2 c c0 (by omega)
      cases q : gb cs c with
      | false =>
        rw [bz_ff, if_pos rfl]
        refine ih (c + 1) υ t (by omega) (by omega) K ht hjt (st.mono fun g i i0 i1 e => ?_)
        by_cases w : i = c
        · subst w
          have := kc.mpr ⟨c1', e⟩
          rw [q] at this; cases this
        · exact g i i0 (by omega) e
      | true =>
        rw [bz_tt, if_neg (by decide)]
        obtain ⟨-, kk⟩ := kc.mp q
        have ok := rl.2.2 c c0 c1'
        obtain ⟨υ1, t1, b1, K1, ht1, hjt1, st1'⟩ := isNamed_sp (d := d + 2) m24 n6 ht hjt (q := c) (v := if S p = 1 then C X else C (W X)) (by omega) c1' cv.1 cv.2 (fun _ => ⟨by
          rcases kk with e | e
          · exact hp.tr (by rw [← e]; exact (Hs.f c0 c1' (by omega)).sy)
          · exact hp.tr (by rw [← e]; exact (Hs.g c0 c1' (by omega)).sy), fun g cg gh => by
          rcases kk with e | e
          · have hc' : Hs m F G D h c := hp.tr (by rw [← e]; exact (Hs.f c0 c1' (by omega)).sy)
            obtain ⟨v0, v1, v2, -⟩ := cg c c0 c1' hc'
            have e2 := v2 (by omega)
            rw [e, hg g cg gh] at e2
            obtain ⟨-, -, -, u3, u4, -, u6⟩ := nm.2 _ v0 v1
            obtain ⟨⟨-, -, -, -, -, u5⟩, -⟩ := nm.2 _ u3 u4
            have s0 : S p = 0 := by
              rcases ok.2.2.2.1 with z | z
              · omega
              · rw [← e]; exact z.2.2
            rw [if_neg (by omega), e2, u5, u6]
          · have hc' : Hs m F G D h c := hp.tr (by rw [← e]; exact (Hs.g c0 c1' (by omega)).sy)
            obtain ⟨v0, v1, -, v2, -⟩ := cg c c0 c1' hc'
            have e2 := v2 (by omega)
            rw [e, hg g cg gh] at e2
            obtain ⟨-, -, -, u3, u4, -, u6⟩ := nm.2 _ v0 v1
            have s0 : S p = 1 := by
              rcases ok.2.2.2.2.1 with z | z
              · omega
              · rw [← e]; exact z.2.2
            rw [if_pos s0, e2, u6]⟩)
        rw [b1, cV_rV]
        refine ih (c + 1) υ1 t1 (by omega) (by omega) (K.tr K1) ht1 hjt1 ((st.tr st1').mono fun g i i0 i1 e => ?_)
        by_cases w : i = c
        · subst w
          rcases g.2 with z | z
          · omega
          · exact z
        · exact g.1 i i0 (by omega) e
  obtain ⟨τ4, s4, b1, K4, hs4, hj4, st4⟩ := kids m.toNat 0 τ3 s3 (by omega) (by decide) (Fr.rf _ _) hs3 hj3 (Nsp.rf m s3 fun i i0 i1 => by omega)
  refine ⟨τ4, s4, ?_, ((F1.tr F2).tr F3).tr K4, hs4, hj4, (((st1.tr st2).tr st3).tr st4).mono fun g => ?_⟩
  · have bc := beforeC mr (d := d + 2) x0 x1
    have bc1 := beforeC hx1.nm.2.2.1 (d := d + 2) x0 x1
    have bw1 := beforeW hx1.nm.2.2.1.1 (d := d + 2) mm0 mm1
    have so := spouseOf_sp hx2.nm.2.2.1.1 (d := d + 1) (s := S p) S01 x0 x1
    obtain ⟨-, -, e44, -, -⟩ := hx1.rl.2.1.2 p p_0 p_1
    obtain ⟨e42, -, -, -, e46⟩ := hx2.rl.2.1.2 p p_0 p_1
    rw [f_M_namesKin_eq, bnd_zI p_0 (by omega) (by omega), bnd_zI p_0 (by omega) (by omega), ix_zI p_0 (by omega), eX, bc, cI_rI, c4, a1, cV_rV, bnd_zI p_0 (by omega) (by omega), bc1, cI_rI, bw1, cI_rI, e44, a2, cV_rV, bnd_zI p_0 (by omega) (by omega), bnd_zI p_0 (by omega) (by omega), e42, so, cI_rI, e46, a3, cV_rV, k1, cI_rI, zI_0]
    exact b1
  · obtain ⟨⟨⟨z1, z2⟩, z3⟩, z4⟩ := g
    unfold KinP
    rw [hX]
    refine ⟨fun q => ?_, fun q => ?_, fun q => ?_, z4⟩
    · rcases z1 with z | z
      · omega
      · exact z
    · rcases z2 with z | z
      · omega
      · exact z
    · rcases z3 with z | z
      · omega
      · exact z
