/-! people as both have them -/
def RoC (p : Nat) (σ : Sg) (m : Int) (S T F G D : Int → Int) : Prop := isP p ∧ rd σ p 0 = m ∧ ∀ x : Int, 0 ≤ x → σ.1 (p + 1) x.toNat = zI (S x) ∧ σ.1 (p + 2) x.toNat = zI (T x) ∧ σ.1 (p + 3) x.toNat = zI (F x) ∧ σ.1 (p + 4) x.toNat = zI (G x) ∧ σ.1 (p + 5) x.toNat = zI (D x)
def RoM (σ : Sg) (m : Int) (S T F G D : Int → Int) : Prop := rd σ 102 69 = m ∧ ∀ x : Int, 0 ≤ x → x < m → σ.1 142 x.toNat = zI (S x) ∧ σ.1 143 x.toNat = zI (T x) ∧ σ.1 144 x.toNat = zI (F x) ∧ σ.1 145 x.toNat = zI (G x) ∧ σ.1 146 x.toNat = zI (D x)
theorem IRoll.c {r p : Nat} {σ : Sg} (h : IRoll r p σ) (hp : isP p) : RoC p σ (rd σ p 0) (rd σ (p + 1)) (rd σ (p + 2)) (rd σ (p + 3)) (rd σ (p + 4)) (rd σ (p + 5)) := ⟨hp, rfl, fun x x0 => ⟨by rw [rd_k, toNat_c x0], by rw [rd_k, toNat_c x0], by rw [rd_k, toNat_c x0], by rw [rd_k, toNat_c x0], by rw [rd_k, toNat_c x0]⟩⟩
theorem IRoll.m {r p : Nat} {σ : Sg} (h : IRoll r p σ) : RoM σ (rd σ p 0) (rd σ (p + 1)) (rd σ (p + 2)) (rd σ (p + 3)) (rd σ (p + 4)) (rd σ (p + 5)) := ⟨h.2.1, fun x x0 x1 => by
  obtain ⟨e1, e2, e3, e4, e5⟩ := h.2.2.1 x x0 x1
  exact ⟨by rw [rd_k, toNat_c x0, e1], by rw [rd_k, toNat_c x0, e2], by rw [rd_k, toNat_c x0, e3], by rw [rd_k, toNat_c x0, e4], by rw [rd_k, toNat_c x0, e5]⟩⟩
/-- bounds of all that is told -/
theorem RlOk.bd {n m : Int} {S T F G D : Int → Int} (h : RlOk n m S T F G D) (n6 : n ≤ 6) {x : Int} (x0 : 0 ≤ x) (x1 : x < m) : (S x = 0 ∨ S x = 1) ∧ (-1 ≤ T x ∧ T x < n ∧ T x < 6) ∧ (-1 ≤ F x ∧ F x < m ∧ F x < 24) ∧ (-1 ≤ G x ∧ G x < m ∧ G x < 24) ∧ (-1 ≤ D x ∧ D x < m ∧ D x < 24) := by
  obtain ⟨m0, m1, h⟩ := h
  obtain ⟨a, b, c, d, e, f⟩ := h x x0 x1
  refine ⟨a, by omega, ?_, ?_, ?_⟩
  · rcases d with d | d <;> omega
  · rcases e with d | d <;> omega
  · rcases f with d | d <;> omega
theorem cnt_cut {P : Int → Bool} : ∀ (k : Nat) {m : Int}, 0 ≤ m → cnt (fun y => decide (y < m) && P y) k = cnt P (min k m.toNat)
  | 0, m, h => by rw [Nat.zero_min]; rfl
  | k + 1, m, h => by
    rw [cnt_s, cnt_cut k h]
    by_cases q : (k : Int) < m
    · rw [decide_eq_true q, Bool.true_and, show min (k + 1) m.toNat = k + 1 by omega, show min k m.toNat = k by omega, cnt_s]
    · rw [decide_eq_false q, Bool.false_and, if_neg Bool.false_ne_true, show min (k + 1) m.toNat = m.toNat by omega, show min k m.toNat = m.toNat by omega]; omega
/-- the first of some; -2: none -/
def frs (P : Int → Bool) : Nat → Int
  | 0 => -2
  | k + 1 => if frs P k = -2 then (if P (k : Int) = true then (k : Int) else -2) else frs P k
theorem frs_sp (P : Int → Bool) : ∀ k : Nat, (frs P k = -2 ∧ ∀ j : Int, 0 ≤ j → j < k → P j = false) ∨ (0 ≤ frs P k ∧ frs P k < k ∧ P (frs P k) = true ∧ ∀ j : Int, 0 ≤ j → j < frs P k → P j = false)
  | 0 => Or.inl ⟨rfl, fun j h0 h1 => by omega⟩
  | k + 1 => by
    unfold frs
    rcases frs_sp P k with ⟨h1, h2⟩ | ⟨h0, h1, h2, h3⟩
    · rw [if_pos h1]
      cases hp : P (k : Int) with
      | true => rw [if_pos rfl]; exact Or.inr ⟨by omega, by omega, hp, h2⟩
      | false =>
        rw [if_neg Bool.false_ne_true]
        refine Or.inl ⟨rfl, fun j j0 j1 => ?_⟩
        by_cases q : j = k
        · rw [q, hp]
        · exact h2 j j0 (by omega)
    · rw [if_neg (by omega)]; exact Or.inr ⟨h0, by omega, h2, h3⟩
/-- a set told by a test: how many, the first -/
theorem set_tell {σ : Sg} {d : Nat} {m : Int} (m0 : 0 ≤ m) (m1 : m ≤ 24) {P : Int → Bool} {s : Int32} (hs : ∀ y, 0 ≤ y → y < 32 → gb s y = (decide (y < m) && P y)) : f_Integer_bitCount (d + 1) s σ = rI (zI (cnt P m.toNat)) σ ∧ (if s = 0 then rI (-2) σ else cI (f_N_lowestOf (d + 1) s σ) fun v σ1 => rI v σ1) = rI (zI (frs P m.toNat)) σ := by
  refine ⟨?_, ?_⟩
  · rw [bitCount_sp fun k k0 k1 => by rw [hs k (by omega) k1, decide_eq_false (by omega)]; rfl]
    rw [cnt_congr (q := fun y => decide (y < m) && P y) fun i i0 i1 => hs i i0 (by omega), cnt_cut 24 m0, show min 24 m.toNat = m.toNat by omega]
  · rcases frs_sp P m.toNat with ⟨h1, h2⟩ | ⟨h0, h1, h2, h3⟩
    · have : s = 0 := by
        rw [zI_0]
        refine gb_ext fun y y0 y1 => ?_
        rw [hs y y0 y1, gb_0]
        by_cases q : y < m
        · rw [h2 y y0 (by omega), Bool.and_false]
        · rw [decide_eq_false q]; rfl
      rw [if_pos this, h1]; rfl
    · have g : gb s (frs P m.toNat) = true := by rw [hs _ h0 (by omega), decide_eq_true (by omega), h2]; rfl
      have : s ≠ 0 := fun e => by rw [e, zI_0, gb_0] at g; cases g
      rw [if_neg this, lowestOf_sp g ⟨h0, by omega⟩ fun j j0 j1 => by rw [hs j j0 (by omega), h3 j j0 j1, Bool.and_false], cI_rI]
def wrW (W H S T D : Int → Int) (x : Int) : Bool := decide (x < D x ∧ 0 ≤ T x ∧ 0 ≤ T (D x) ∧ spF W H (S x) (T x) ≠ T (D x))
def wrC (C T G : Int → Int) (x : Int) : Bool := decide (0 ≤ G x ∧ 0 ≤ T x ∧ 0 ≤ T (G x) ∧ C (T (G x)) ≠ T x)
theorem spF_bd {n : Int} {W H C M : Int → Int} (h : NmOk n W H C M) {s x : Int} (h0 : 0 ≤ x) (h1 : x < n) : 0 ≤ spF W H s x ∧ spF W H s x < n := by
  obtain ⟨⟨a1, a2, a3, a4, -, -⟩, -⟩ := h.2 x h0 h1
  unfold spF; split
  · exact ⟨a1, a2⟩
  · exact ⟨a3, a4⟩
theorem wrongW_sp {σ : Sg} {r p : Nat} {n m : Int} {S T F G D : Int → Int} (hr : RuleAt σ r n) (hc : RoC p σ m S T F G D) (ho : RlOk n m S T F G D) {d : Nat} : ∃ s, f_Roll_wrongWeddings (d + 2) p r σ = rI s σ ∧ ∀ y, 0 ≤ y → y < 32 → gb s y = (decide (y < m) && wrW (rd σ (r + 1)) (rd σ (r + 2)) S T D y) := by
  have n6 : n ≤ 6 := hr.2.2.1
  have m24 := ho.2.1
  obtain ⟨hp, hm, hx⟩ := hc
  have em : σ.1 p 0 = zI m := (rd_k σ p 0).trans (congrArg zI hm)
  rw [f_Roll_wrongWeddings_eq, zI_0]
  have st : ∀ (x4 : Value) (i : Int) (s : Int32), 0 ≤ i → i < m → ∃ x4', f_Roll_wrongWeddings_4 (d + 1) p r s (zI i) x4 σ = f_Roll_wrongWeddings_4 (d + 1) p r (if wrW (rd σ (r + 1)) (rd σ (r + 2)) S T D i = true then s ||| (zI 1 <<< (zI i &&& zI 31)) else s) (zI (i + 1)) x4' σ := by
    intro x4 i s i0 i1
    obtain ⟨s1, t1, f1, g1, d1⟩ := hx i i0
    obtain ⟨bs, bt, bf, bg, bd⟩ := ho.bd n6 i0 i1
    have lt : zI i < zI m := by rw [zI_le (by omega) (by omega)]; exact i1
    have ii : zI i + 1 = zI (i + 1) := by rw [zI_lit, zI_add]
    have c1 : (zI i < zI (D i)) = (i < D i) := zI_le (by omega) (by omega)
    have c2 : (zI (T i) < 0) = (T i < 0) := by rw [zI_0]; exact zI_le (by omega) (by decide)
    rw [f_Roll_wrongWeddings_4_eq, gfI_of hp.s0, em, if_pos lt, gfS_of hp.s0, ofs_4_5, ldi_of hp.s5 i0 (by omega) (by omega), d1, ii]
    unfold wrW
    by_cases q1 : i < D i
    · rw [if_pos (c1.mpr q1), gfS_of hp.s0, ofs_4_2, ldi_of hp.s2 i0 (by omega) (by omega), t1]
      obtain ⟨s2, t2, -⟩ := hx (D i) (by omega)
      obtain ⟨-, bt2, -⟩ := ho.bd n6 (x := D i) (by omega) (by omega)
      have c3 : (zI (T (D i)) < 0) = (T (D i) < 0) := by rw [zI_0]; exact zI_le (by omega) (by decide)
      by_cases q2 : T i < 0
      · rw [if_pos (c2.mpr q2), decide_eq_false (by omega), if_neg Bool.false_ne_true]; exact ⟨_, rfl⟩
      · rw [if_neg (fun z => q2 (c2.mp z)), gfS_of hp.s0, ofs_4_2, ldi_of hp.s2 (by omega) (by omega) (by omega), t2]
        by_cases q3 : T (D i) < 0
        · rw [if_pos (c3.mpr q3), decide_eq_false (by omega), if_neg Bool.false_ne_true]; exact ⟨_, rfl⟩
        · have es := spouse_sp hr (d := d) bs (show 0 ≤ T i by omega) bt.2.1
          have sb := spF_bd hr.nm (s := S i) (show 0 ≤ T i by omega) bt.2.1
          rw [if_neg (fun z => q3 (c3.mp z)), gfS_of hp.s0, ofs_4_1, ldi_of hp.s1 i0 (by omega) (by omega), s1, gfS_of hp.s0, ofs_4_2, ldi_of hp.s2 i0 (by omega) (by omega), t1, gdK_of hr.1.s0, es, cI_rI, gfS_of hp.s0, ofs_4_2, ldi_of hp.s2 (by omega) (by omega) (by omega), t2, show (1 : Int32) = zI 1 from zI_lit 1, show (31 : Int32) = zI 31 from zI_lit 31]
          by_cases q4 : spF (rd σ (r + 1)) (rd σ (r + 2)) (S i) (T i) = T (D i)
          · rw [if_pos (congrArg zI q4), decide_eq_false (fun z => z.2.2.2 q4), if_neg Bool.false_ne_true]; exact ⟨_, rfl⟩
          · rw [if_neg (by rw [zI_eq (by omega) (by omega)]; exact q4), decide_eq_true ⟨q1, by omega, by omega, q4⟩, if_pos rfl]; exact ⟨_, rfl⟩
    · rw [if_neg (fun z => q1 (c1.mp z)), decide_eq_false (fun z => q1 z.1), if_neg Bool.false_ne_true]; exact ⟨_, rfl⟩
  have fin : ∀ (x4 : Value) (s : Int32), f_Roll_wrongWeddings_4 (d + 1) p r s (zI m) x4 σ = rI s σ := fun x4 s => by
    rw [f_Roll_wrongWeddings_4_eq, gfI_of hp.s0, em, if_neg Int32.lt_irrefl]
  have ind : ∀ (k : Nat) (i : Int) (s : Int32) (x4 : Value), 0 ≤ i → i + k = m → f_Roll_wrongWeddings_4 (d + 1) p r s (zI i) x4 σ = f_Roll_wrongWeddings_4 (d + 1) p r s (zI i) .null σ := by
    intro k
    induction k with
    | zero => intro i s x4 i0 hi; have : i = m := by omega
              subst this; rw [fin, fin]
    | succ k ih =>
      intro i s x4 i0 hi
      obtain ⟨y1, e1⟩ := st x4 i s i0 (by omega)
      obtain ⟨y2, e2⟩ := st .null i s i0 (by omega)
      rw [e1, e2, ih (i + 1) _ y1 (by omega) (by omega), ih (i + 1) _ y2 (by omega) (by omega)]
  refine setloop (F := fun i s => f_Roll_wrongWeddings_4 (d + 1) p r s (zI i) .null σ) (fun i s i0 i1 => ?_) (fun s => fin .null s) ho.1 (by omega)
  obtain ⟨y, e⟩ := st .null i s i0 i1
  show f_Roll_wrongWeddings_4 (d + 1) p r s (zI i) .null σ = f_Roll_wrongWeddings_4 (d + 1) p r _ (zI (i + 1)) .null σ
  rw [e, ind (m - (i + 1)).toNat (i + 1) _ y (by omega) (by omega)]
theorem wrongC_sp {σ : Sg} {r p : Nat} {n m : Int} {S T F G D : Int → Int} (hr : RuleAt σ r n) (hc : RoC p σ m S T F G D) (ho : RlOk n m S T F G D) {d : Nat} : ∃ s, f_Roll_wrongChildren (d + 2) p r σ = rI s σ ∧ ∀ y, 0 ≤ y → y < 32 → gb s y = (decide (y < m) && wrC (rd σ (r + 3)) T G y) := by
  have n6 : n ≤ 6 := hr.2.2.1
  have m24 := ho.2.1
  obtain ⟨hp, hm, hx⟩ := hc
  have em : σ.1 p 0 = zI m := (rd_k σ p 0).trans (congrArg zI hm)
  rw [f_Roll_wrongChildren_eq, zI_0]
  have st : ∀ (x4 : Value) (i : Int) (s : Int32), 0 ≤ i → i < m → ∃ x4', f_Roll_wrongChildren_4 (d + 1) p r s (zI i) x4 σ = f_Roll_wrongChildren_4 (d + 1) p r (if wrC (rd σ (r + 3)) T G i = true then s ||| (zI 1 <<< (zI i &&& zI 31)) else s) (zI (i + 1)) x4' σ := by
    intro x4 i s i0 i1
    obtain ⟨s1, t1, f1, g1, d1⟩ := hx i i0
    obtain ⟨bs, bt, bf, bg, bd⟩ := ho.bd n6 i0 i1
    have lt : zI i < zI m := by rw [zI_le (by omega) (by omega)]; exact i1
    have ii : zI i + 1 = zI (i + 1) := by rw [zI_lit, zI_add]
    have c1 : (zI (G i) < 0) = (G i < 0) := by rw [zI_0]; exact zI_le (by omega) (by decide)
    have c2 : (zI (T i) < 0) = (T i < 0) := by rw [zI_0]; exact zI_le (by omega) (by decide)
    rw [f_Roll_wrongChildren_4_eq, gfI_of hp.s0, em, if_pos lt, gfS_of hp.s0, ofs_4_4, ldi_of hp.s4 i0 (by omega) (by omega), g1, ii]
    unfold wrC
    by_cases q1 : G i < 0
    · rw [if_pos (c1.mpr q1), decide_eq_false (by omega), if_neg Bool.false_ne_true]; exact ⟨_, rfl⟩
    · rw [if_neg (fun z => q1 (c1.mp z)), gfS_of hp.s0, ofs_4_2, ldi_of hp.s2 i0 (by omega) (by omega), t1]
      obtain ⟨-, t2, -⟩ := hx (G i) (by omega)
      obtain ⟨-, bt2, -⟩ := ho.bd n6 (x := G i) (by omega) (by omega)
      have c3 : (zI (T (G i)) < 0) = (T (G i) < 0) := by rw [zI_0]; exact zI_le (by omega) (by decide)
      by_cases q2 : T i < 0
      · rw [if_pos (c2.mpr q2), decide_eq_false (by omega), if_neg Bool.false_ne_true]; exact ⟨_, rfl⟩
      · rw [if_neg (fun z => q2 (c2.mp z)), gfS_of hp.s0, ofs_4_2, ldi_of hp.s2 (by omega) (by omega) (by omega), t2]
        by_cases q3 : T (G i) < 0
        · rw [if_pos (c3.mpr q3), decide_eq_false (by omega), if_neg Bool.false_ne_true]; exact ⟨_, rfl⟩
        · obtain ⟨-, -, w3, -, -, -, -, c5, c6, -⟩ := ru hr (x := T (G i)) (by omega) bt2.2.1
          rw [if_neg (fun z => q3 (c3.mp z)), gfS_of hr.1.s0, ofs_6_3, gfS_of hp.s0, ofs_4_2, ldi_of hp.s2 (by omega) (by omega) (by omega), t2, ldi_of hr.1.s3 (by omega) (by omega) (by omega), w3, gfS_of hp.s0, ofs_4_2, ldi_of hp.s2 i0 (by omega) (by omega), t1, show (1 : Int32) = zI 1 from zI_lit 1, show (31 : Int32) = zI 31 from zI_lit 31]
          by_cases q4 : rd σ (r + 3) (T (G i)) = T i
          · rw [if_pos (congrArg zI q4), decide_eq_false (fun z => z.2.2.2 q4), if_neg Bool.false_ne_true]; exact ⟨_, rfl⟩
          · rw [if_neg (by rw [zI_eq (by omega) (by omega)]; exact q4), decide_eq_true ⟨by omega, by omega, by omega, q4⟩, if_pos rfl]; exact ⟨_, rfl⟩
  have fin : ∀ (x4 : Value) (s : Int32), f_Roll_wrongChildren_4 (d + 1) p r s (zI m) x4 σ = rI s σ := fun x4 s => by
    rw [f_Roll_wrongChildren_4_eq, gfI_of hp.s0, em, if_neg Int32.lt_irrefl]
  have ind : ∀ (k : Nat) (i : Int) (s : Int32) (x4 : Value), 0 ≤ i → i + k = m → f_Roll_wrongChildren_4 (d + 1) p r s (zI i) x4 σ = f_Roll_wrongChildren_4 (d + 1) p r s (zI i) .null σ := by
    intro k
    induction k with
    | zero => intro i s x4 i0 hi; have : i = m := by omega
              subst this; rw [fin, fin]
    | succ k ih =>
      intro i s x4 i0 hi
      obtain ⟨y1, e1⟩ := st x4 i s i0 (by omega)
      obtain ⟨y2, e2⟩ := st .null i s i0 (by omega)
      rw [e1, e2, ih (i + 1) _ y1 (by omega) (by omega), ih (i + 1) _ y2 (by omega) (by omega)]
  refine setloop (F := fun i s => f_Roll_wrongChildren_4 (d + 1) p r s (zI i) .null σ) (fun i s i0 i1 => ?_) (fun s => fin .null s) ho.1 (by omega)
  obtain ⟨y, e⟩ := st .null i s i0 i1
  show f_Roll_wrongChildren_4 (d + 1) p r s (zI i) .null σ = f_Roll_wrongChildren_4 (d + 1) p r _ (zI (i + 1)) .null σ
  rw [e, ind (m - (i + 1)).toNat (i + 1) _ y (by omega) (by omega)]
theorem isWrW_sp {σ : Sg} {n m : Int} {S T F G D W H C : Int → Int} (hr : MR σ n W H C) (hm : RoM σ m S T F G D) (ho : RlOk n m S T F G D) (hH : ∀ s x, 0 ≤ x → x < n → 0 ≤ spF W H s x ∧ spF W H s x < n) {d : Nat} {x : Int} (x0 : 0 ≤ x) (x1 : x < m) : f_M_isWrongWedding (d + 3) (zI x) σ = rI (bz (wrW W H S T D x)) σ := by
  have n6 : n ≤ 6 := hr.2.2.1
  have m24 := ho.2.1
  obtain ⟨s1, t1, -, -, d1⟩ := hm.2 x x0 x1
  obtain ⟨bs, bt, bf, bg, bd⟩ := ho.bd n6 x0 x1
  have c1 : (zI x < zI (D x)) = (x < D x) := zI_le (by omega) (by omega)
  have c2 : (zI (T x) = (-1 : Int32)) = (T x = -1) := by rw [show (-1 : Int32) = zI (-1) from rfl]; exact zI_eq (by omega) (by decide)
  rw [f_M_isWrongWedding_eq, bnd_zI x0 (by omega) (by omega), ix_zI x0 (by omega), d1]
  unfold wrW
  by_cases q1 : x < D x
  · obtain ⟨s2, t2, -⟩ := hm.2 (D x) (by omega) (by omega)
    obtain ⟨-, bt2, -⟩ := ho.bd n6 (x := D x) (by omega) (by omega)
    have c3 : (zI (T (D x)) = (-1 : Int32)) = (T (D x) = -1) := by rw [show (-1 : Int32) = zI (-1) from rfl]; exact zI_eq (by omega) (by decide)
    rw [if_pos (c1.mpr q1), bnd_zI x0 (by omega) (by omega), t1]
    by_cases q2 : T x = -1
    · rw [if_pos (c2.mpr q2), decide_eq_false (by omega), rZ_0]; rfl
    · rw [if_neg (fun z => q2 (c2.mp z)), bnd_zI (by omega) (by omega) (by omega), ix_zI (by omega) (by omega), t2]
      by_cases q3 : T (D x) = -1
      · rw [if_pos (c3.mpr q3), decide_eq_false (by omega), rZ_0]; rfl
      · have es := spouseOf_sp hr (d := d) bs (show 0 ≤ T x by omega) bt.2.1
        have sb := hH (S x) (T x) (by omega) bt.2.1
        rw [if_neg (fun z => q3 (c3.mp z)), bnd_zI (by omega) (by omega) (by omega), bnd_zI x0 (by omega) (by omega), bnd_zI x0 (by omega) (by omega), s1, es, cI_rI]
        by_cases q4 : spF W H (S x) (T x) = T (D x)
        · rw [if_pos (congrArg zI q4.symm), decide_eq_false (fun z => z.2.2.2 q4), rZ_0]; rfl
        · rw [if_neg (by rw [zI_eq (by omega) (by omega)]; exact fun e => q4 e.symm), decide_eq_true ⟨q1, by omega, by omega, q4⟩, rZ_1]; rfl
  · rw [if_neg (fun z => q1 (c1.mp z)), decide_eq_false (fun z => q1 z.1), rZ_0]; rfl
theorem isWrC_sp {σ : Sg} {n m : Int} {S T F G D W H C : Int → Int} (hr : MR σ n W H C) (hm : RoM σ m S T F G D) (ho : RlOk n m S T F G D) {d : Nat} {x : Int} (x0 : 0 ≤ x) (x1 : x < m) : f_M_isWrongChild (d + 1) (zI x) σ = rI (bz (wrC C T G x)) σ := by
  have n6 : n ≤ 6 := hr.2.2.1
  have m24 := ho.2.1
  obtain ⟨s1, t1, -, g1, -⟩ := hm.2 x x0 x1
  obtain ⟨bs, bt, bf, bg, bd⟩ := ho.bd n6 x0 x1
  have c1 : (zI (G x) = (-1 : Int32)) = (G x = -1) := by rw [show (-1 : Int32) = zI (-1) from rfl]; exact zI_eq (by omega) (by decide)
  have c2 : (zI (T x) = (-1 : Int32)) = (T x = -1) := by rw [show (-1 : Int32) = zI (-1) from rfl]; exact zI_eq (by omega) (by decide)
  rw [f_M_isWrongChild_eq, bnd_zI x0 (by omega) (by omega), ix_zI x0 (by omega), g1]
  unfold wrC
  by_cases q1 : G x = -1
  · rw [if_pos (c1.mpr q1), decide_eq_false (by omega), rZ_0]; rfl
  · obtain ⟨-, t2, -⟩ := hm.2 (G x) (by omega) (by omega)
    obtain ⟨-, bt2, -⟩ := ho.bd n6 (x := G x) (by omega) (by omega)
    have c3 : (zI (T (G x)) = (-1 : Int32)) = (T (G x) = -1) := by rw [show (-1 : Int32) = zI (-1) from rfl]; exact zI_eq (by omega) (by decide)
    rw [if_neg (fun z => q1 (c1.mp z)), bnd_zI x0 (by omega) (by omega), t1]
    by_cases q2 : T x = -1
    · rw [if_pos (c2.mpr q2), decide_eq_false (by omega), rZ_0]; rfl
    · rw [if_neg (fun z => q2 (c2.mp z)), bnd_zI (by omega) (by omega) (by omega), ix_zI (by omega) (by omega), t2]
      by_cases q3 : T (G x) = -1
      · rw [if_pos (c3.mpr q3), decide_eq_false (by omega), rZ_0]; rfl
      · obtain ⟨-, cc, -, -, -, -, -, -, c5, c6⟩ := hr.2.2.2 (T (G x)) (by omega) bt2.2.1
        have y2 : σ.1 107 (T (G x)).toNat = zI (C (T (G x))) := by rw [rd_k, toNat_c (by omega), cc]
        rw [if_neg (fun z => q3 (c3.mp z)), bnd_zI x0 (by omega) (by omega), bnd_zI (by omega) (by omega) (by omega), bnd_zI (by omega) (by omega) (by omega), ix_zI (by omega) (by omega), y2]
        by_cases q4 : C (T (G x)) = T x
        · rw [if_pos (congrArg zI q4.symm), decide_eq_false (fun z => z.2.2.2 q4), rZ_0]; rfl
        · rw [if_neg (by rw [zI_eq (by omega) (by omega)]; exact fun e => q4 e.symm), decide_eq_true ⟨by omega, by omega, by omega, q4⟩, rZ_1]; rfl
theorem c_byTold {σ : Sg} {r p l : Nat} (h : Inv r p l σ) (a : Int32) : Same (f_N_byTold 100 a) (f_M_byTold 100 a) σ := by
  obtain ⟨a, rfl, ha⟩ := zI_ex a
  obtain ⟨n1, n2, n3, n4⟩ := h.n
  have q3 : σ.2.2 4 3 = p := h.1.2.2.2.2.2.1
  have hP := h.1.2.1
  have hr := h.2.2.1
  have hroll := h.2.2.2.1
  have hc := hroll.c hP
  have hm := hroll.m
  have ho := hroll.1
  have iM := in_sp (σ := σ) (d := 98) (a := a) (b := 0) (c := 3) ha (by decide) (by decide)
  suffices H : ∃ v, f_N_byTold 100 (zI a) σ = rI v σ ∧ f_M_byTold 100 (zI a) σ = rI v σ by
    obtain ⟨v, e1, e2⟩ := H
    exact ⟨v, σ, σ, r, p, l, e1, e2, h⟩
  have a0 : (zI a < 0) = (a < 0) := by rw [zI_0]; exact zI_le ha (by decide)
  have a3 : ((3 : Int32) < zI a) = (3 < a) := by rw [show (3 : Int32) = zI 3 from zI_lit 3]; exact zI_le (by decide) ha
  have a2 : (zI a < 2) = (a < 2) := by rw [show (2 : Int32) = zI 2 from zI_lit 2]; exact zI_le ha (by decide)
  have z0 : (zI a = 0) = (a = 0) := by rw [zI_0]; exact zI_eq ha (by decide)
  have z2 : (zI a = 2) = (a = 2) := by rw [show (2 : Int32) = zI 2 from zI_lit 2]; exact zI_eq ha (by decide)
  by_cases q : 0 ≤ a ∧ a ≤ 3
  · -- the test
    obtain ⟨m0, m24, -⟩ := ho
    have ho := hroll.1
    have mlp : ∀ (P : Int → Bool), (∀ x, 0 ≤ x → x < rd σ p 0 → (if zI a < 2 then f_M_isWrongWedding 99 (zI x) σ else f_M_isWrongChild 99 (zI x) σ) = rI (bz (P x)) σ) → ∀ (k : Nat) (c f : Int), k ≤ (rd σ p 0).toNat → f_M_byTold_24 99 (zI a) (zI c) (zI f) (zI ((k : Int) - 1)) σ = rI (if a = 0 ∨ a = 2 then zI (c + cnt P k) else zI (if frs P k = -2 then f else frs P k)) σ := by
      intro P hP k
      induction k with
      | zero =>
        intro c f _
        have r2 : ∀ K : Int32 → Rs, rmI (zI a) 2 K = K (zI (a % 2)) := fun K => by rw [show (2 : Int32) = zI 2 from zI_lit 2]; exact rmI_nn q.1 (by omega) (by decide) (by decide)
        have zz : (zI (a % 2) = 0) = (a % 2 = 0) := by rw [zI_0]; exact zI_eq (by omega) (by decide)
        rw [f_M_byTold_24_eq, if_pos (by decide), r2]
        by_cases e : a % 2 = 0
        · rw [if_pos (zz.mpr e), if_pos (by omega), show cnt P 0 = 0 from rfl, Int.add_zero]
        · rw [if_neg (fun y => e (zz.mp y)), if_neg (by omega), if_pos (show frs P 0 = -2 from rfl)]
      | succ k ih =>
        intro c f hk
        have hx := hP (k : Int) (by omega) (by omega)
        have e1 : zI (((k + 1 : Nat) : Int) - 1) = zI (k : Int) := congrArg zI (by omega)
        have e2 : zI (k : Int) + -1 = zI ((k : Int) - 1) := by rw [show (-1 : Int32) = zI (-1) from rfl, zI_add]; rfl
        have e3 : zI c + 1 = zI (c + 1) := by rw [zI_lit, zI_add]
        have ng : ¬ zI (k : Int) < 0 := by rw [zI_0, zI_le (by omega) (by decide)]; omega
        have main : f_M_byTold_24 99 (zI a) (zI c) (zI f) (zI (k : Int)) σ = if P (k : Int) = true then f_M_byTold_24 99 (zI a) (zI (c + 1)) (zI (k : Int)) (zI ((k : Int) - 1)) σ else f_M_byTold_24 99 (zI a) (zI c) (zI f) (zI ((k : Int) - 1)) σ := by
          rw [f_M_byTold_24_eq, if_neg ng, e2, e3]
          by_cases w : a < 2
          · rw [if_pos (a2.mpr w)] at hx ⊢
            rw [hx, cI_rI]
            cases P (k : Int) with
            | true => rw [bz_tt, if_neg (by decide), if_pos rfl]
            | false => rw [bz_ff, if_pos (by decide), if_neg Bool.false_ne_true]
          · rw [if_neg (fun y => w (a2.mp y))] at hx ⊢
            rw [hx, cI_rI]
            cases P (k : Int) with
            | true => rw [bz_tt, if_neg (by decide), if_pos rfl]
            | false => rw [bz_ff, if_pos (by decide), if_neg Bool.false_ne_true]
        rw [e1, main, cnt_s]
        have fs : frs P (k + 1) = if frs P k = -2 then (if P (k : Int) = true then (k : Int) else -2) else frs P k := rfl
        rw [fs]
        cases hp : P (k : Int) with
        | true =>
          rw [if_pos rfl, ih (c + 1) (k : Int) (by omega), if_pos rfl, if_pos rfl, show c + 1 + cnt P k = c + (cnt P k + 1) by omega]
          by_cases e : frs P k = -2
          · rw [if_pos e, if_neg (show ¬ ((k : Int) = -2) by omega)]
          · rw [if_neg e, if_neg e]
        | false =>
          rw [if_neg Bool.false_ne_true, ih c f (by omega), if_neg Bool.false_ne_true, if_neg Bool.false_ne_true, Int.add_zero]
          by_cases e : frs P k = -2
          · rw [if_pos e, if_pos e, if_pos rfl]
          · rw [if_neg e, if_neg e, if_neg e]
    have mrun : ∀ (P : Int → Bool), (∀ x, 0 ≤ x → x < rd σ p 0 → (if zI a < 2 then f_M_isWrongWedding 99 (zI x) σ else f_M_isWrongChild 99 (zI x) σ) = rI (bz (P x)) σ) → f_M_byTold 100 (zI a) σ = rI (if a = 0 ∨ a = 2 then zI (cnt P (rd σ p 0).toNat) else zI (frs P (rd σ p 0).toNat)) σ := by
      intro P hP
      have := mlp P hP (rd σ p 0).toNat 0 (-2) (Nat.le_refl _)
      have e5 : σ.1 102 69 - 1 = zI (((rd σ p 0).toNat : Int) - 1) := by
        rw [show σ.1 102 69 = zI (rd σ p 0) from (rd_k σ 102 69).trans (congrArg zI hm.1), zI_lit, zI_sub]; exact congrArg zI (by omega)
      rw [f_M_byTold_eq, zI_0, show (3 : Int32) = zI 3 from zI_lit 3, iM, cI_rI, decide_eq_true q, bz_tt, if_neg (by decide), show (-2 : Int32) = zI (-2) from rfl, e5, this, Int.zero_add]
      by_cases e : frs P (rd σ p 0).toNat = -2
      · rw [if_pos e, e]
      · rw [if_neg e]
    by_cases w : a < 2
    · obtain ⟨s, es, hs⟩ := wrongW_sp hr.1 hc ho (d := 97)
      obtain ⟨b1, b2⟩ := set_tell (σ := σ) (d := 98) m0 m24 hs
      refine ⟨_, ?_, mrun (wrW (rd σ (r + 1)) (rd σ (r + 2)) (rd σ (p + 1)) (rd σ (p + 2)) (rd σ (p + 5))) fun x x0 x1 => ?_⟩
      · rw [f_N_byTold_eq, if_neg (by rw [a0]; omega), if_neg (by rw [a3]; omega), if_pos (a2.mpr w), q3, gdK_of hP.s0, n1, es, cI_rI]
        by_cases y0 : a = 0
        · rw [if_pos (z0.mpr y0), b1, cI_rI, if_pos (Or.inl y0)]
        · rw [if_neg (fun y => y0 (z0.mp y)), if_neg (fun y => by have := z2.mp y; omega), b2, if_neg (by omega)]
      · rw [if_pos (a2.mpr w)]
        exact isWrW_sp hr.mr hm ho (fun s x x0 x1 => spF_bd hr.1.nm x0 x1) (d := 96) x0 x1
    · obtain ⟨s, es, hs⟩ := wrongC_sp hr.1 hc ho (d := 97)
      obtain ⟨b1, b2⟩ := set_tell (σ := σ) (d := 98) m0 m24 hs
      refine ⟨_, ?_, mrun (wrC (rd σ (r + 3)) (rd σ (p + 2)) (rd σ (p + 4))) fun x x0 x1 => ?_⟩
      · rw [f_N_byTold_eq, if_neg (by rw [a0]; omega), if_neg (by rw [a3]; omega), if_neg (fun y => w (a2.mp y)), q3, gdK_of hP.s0, n1, es, cI_rI, if_neg (fun y => by have := z0.mp y; omega)]
        by_cases y2 : a = 2
        · rw [if_pos (z2.mpr y2), b1, cI_rI, if_pos (Or.inr y2)]
        · rw [if_neg (fun y => y2 (z2.mp y)), b2, if_neg (by omega)]
      · rw [if_neg (fun y => w (a2.mp y))]
        exact isWrC_sp hr.mr hm ho (d := 98) x0 x1
  · refine ⟨-1, ?_, ?_⟩
    · rw [f_N_byTold_eq]
      by_cases y : a < 0
      · rw [if_pos (a0.mpr y)]
      · rw [if_neg (fun z => y (a0.mp z)), if_pos (a3.mpr (by omega))]
    · rw [f_M_byTold_eq, zI_0, show (3 : Int32) = zI 3 from zI_lit 3, iM, cI_rI, decide_eq_false q, bz_ff, if_pos (by decide)]
