theorem childrenOf_sp {σ : Sg} {r p : Nat} (h : IRoll r p σ) (n6 : rd σ r 0 ≤ 6) {d : Nat} {x : Int} (x0 : 0 ≤ x) (x1 : x < rd σ p 0) : f_M_childrenOf (d + 1) (zI x) σ = rI (σ.1 (p + 6) x.toNat) σ := by
  have hm := h.m
  obtain ⟨m0, m24, -⟩ := h.1
  have em : σ.1 102 69 = zI (rd σ p 0) := (rd_k σ 102 69).trans (congrArg zI hm.1)
  have L := setloop (n := rd σ p 0) (σ := σ) (F := fun i s => f_M_childrenOf_4 d (zI x) s (zI i) σ) (P := fun y => decide (rd σ (p + 3) y = x ∨ rd σ (p + 4) y = x)) (fun i s i0 i1 => ?_) (fun s => ?_) m0 (by omega)
  · obtain ⟨s, es, hs⟩ := L
    rw [f_M_childrenOf_eq, zI_0, show f_M_childrenOf_4 d (zI x) (zI 0) (zI 0) σ = rI s σ from es]
    refine congrArg (rI · σ) (gb_ext fun y y0 y1 => ?_)
    rw [hs y y0 y1, (h.2.2.2.1 x y x0 x1 y0 y1).1, ← Bool.decide_and]
  · show f_M_childrenOf_4 d (zI x) s (zI i) σ = f_M_childrenOf_4 d (zI x) _ (zI (i + 1)) σ
    obtain ⟨-, -, f1, g1, -⟩ := hm.2 i i0 i1
    obtain ⟨-, -, bf, bg, -⟩ := h.1.bd n6 i0 i1
    have c1 : (zI (rd σ (p + 3) i) = zI x) = (rd σ (p + 3) i = x) := zI_eq (by omega) (by omega)
    have c2 : (zI (rd σ (p + 4) i) = zI x) = (rd σ (p + 4) i = x) := zI_eq (by omega) (by omega)
    rw [f_M_childrenOf_4_eq, em, if_pos (by rw [zI_le (by omega) (by omega)]; exact i1), bnd_zI i0 (by omega) (by omega), ix_zI i0 (by omega), f1, show (1 : Int32) = zI 1 from zI_lit 1, show (31 : Int32) = zI 31 from zI_lit 31, zI_add]
    by_cases q1 : rd σ (p + 3) i = x
    · rw [if_pos (c1.mpr q1), decide_eq_true (Or.inl q1), if_pos rfl]
    · rw [if_neg (fun z => q1 (c1.mp z)), bnd_zI i0 (by omega) (by omega), g1]
      by_cases q2 : rd σ (p + 4) i = x
      · rw [if_pos (c2.mpr q2), decide_eq_true (Or.inr q2), if_pos rfl]
      · rw [if_neg (fun z => q2 (c2.mp z)), decide_eq_false (fun z => z.elim q1 q2), if_neg Bool.false_ne_true]
  · show f_M_childrenOf_4 d (zI x) s (zI (rd σ p 0)) σ = _
    rw [f_M_childrenOf_4_eq, em, if_neg Int32.lt_irrefl]
def sbP (F G : Int → Int) (x y : Int) : Bool := decide (y ≠ x ∧ (F x ≠ -1 ∧ F x = F y ∨ G x ≠ -1 ∧ G x = G y))
theorem siblingsOf_sp {σ : Sg} {r p : Nat} (h : IRoll r p σ) (n6 : rd σ r 0 ≤ 6) {d : Nat} {x : Int} (x0 : 0 ≤ x) (x1 : x < rd σ p 0) : f_M_siblingsOf (d + 1) (zI x) σ = rI (σ.1 (p + 7) x.toNat) σ := by
  have hm := h.m
  obtain ⟨m0, m24, -⟩ := h.1
  have em : σ.1 102 69 = zI (rd σ p 0) := (rd_k σ 102 69).trans (congrArg zI hm.1)
  obtain ⟨-, -, fx, gx, -⟩ := hm.2 x x0 x1
  obtain ⟨-, -, bfx, bgx, -⟩ := h.1.bd n6 x0 x1
  have fin : ∀ (y4 y5 : Value) (s : Int32), f_M_siblingsOf_4 d (zI x) s (zI (rd σ p 0)) y4 y5 σ = rI s σ := fun y4 y5 s => by
    rw [f_M_siblingsOf_4_eq, em, if_neg Int32.lt_irrefl]
  have st : ∀ (y4 y5 : Value) (i : Int) (s : Int32), 0 ≤ i → i < rd σ p 0 → ∃ z4 z5, f_M_siblingsOf_4 d (zI x) s (zI i) y4 y5 σ = f_M_siblingsOf_4 d (zI x) (if sbP (rd σ (p + 3)) (rd σ (p + 4)) x i = true then s ||| (zI 1 <<< (zI i &&& zI 31)) else s) (zI (i + 1)) z4 z5 σ := by
    intro y4 y5 i s i0 i1
    obtain ⟨-, -, f1, g1, -⟩ := hm.2 i i0 i1
    obtain ⟨-, -, bf, bg, -⟩ := h.1.bd n6 i0 i1
    have lt : zI i < zI (rd σ p 0) := by rw [zI_le (by omega) (by omega)]; exact i1
    have ii : zI i + zI 1 = zI (i + 1) := zI_add _ _
    have c1 : (zI (rd σ (p + 3) i) = zI (-1)) = (rd σ (p + 3) i = -1) := zI_eq (by omega) (by decide)
    have c2 : (zI (rd σ (p + 4) i) = zI (-1)) = (rd σ (p + 4) i = -1) := zI_eq (by omega) (by decide)
    have c3 : (zI (rd σ (p + 3) i) = zI (rd σ (p + 3) x)) = (rd σ (p + 3) i = rd σ (p + 3) x) := zI_eq (by omega) (by omega)
    have c4 : (zI (rd σ (p + 4) i) = zI (rd σ (p + 4) x)) = (rd σ (p + 4) i = rd σ (p + 4) x) := zI_eq (by omega) (by omega)
    have c5 : (zI i = zI x) = (i = x) := zI_eq (by omega) (by omega)
    have n01 : (zI 1 = zI 0) = False := by rw [zI_eq (by decide) (by decide)]; exact eq_false (by decide)
    rw [f_M_siblingsOf_4_eq, em, if_pos lt]
    simp only [zI_neg, Int.reduceNeg, show (1 : Int32) = zI 1 from zI_lit 1, show (31 : Int32) = zI 31 from zI_lit 31, zI_0, bnd_zI i0 (show i < (24 : Nat) by omega) (by omega), bnd_zI x0 (show x < (24 : Nat) by omega) (by omega), ix_zI i0 (show i < 2147483648 by omega), ix_zI x0 (show x < 2147483648 by omega), f1, g1, fx, gx, c1, c2, c3, c4, c5, ii, n01, if_true, if_false, eq_self]
    unfold sbP
    by_cases q5 : i = x
    · rw [decide_eq_false (fun z => z.1 q5), if_neg Bool.false_ne_true]
      simp only [if_pos q5]
      repeat' split
      all_goals exact ⟨_, _, rfl⟩
    · simp only [if_neg q5]
      by_cases q1 : rd σ (p + 3) i = -1
      · simp only [if_pos q1]
        by_cases q2 : rd σ (p + 4) i = -1
        · simp only [if_pos q2]
          rw [decide_eq_false (by omega), if_neg Bool.false_ne_true]; exact ⟨_, _, rfl⟩
        · simp only [if_neg q2]
          by_cases q4 : rd σ (p + 4) i = rd σ (p + 4) x
          · simp only [if_pos q4]
            rw [decide_eq_true (by omega), if_pos rfl]; exact ⟨_, _, rfl⟩
          · simp only [if_neg q4]
            rw [decide_eq_false (by omega), if_neg Bool.false_ne_true]; exact ⟨_, _, rfl⟩
      · simp only [if_neg q1]
        by_cases q3 : rd σ (p + 3) i = rd σ (p + 3) x
        · simp only [if_pos q3]
          rw [decide_eq_true (by omega), if_pos rfl]
          repeat' split
          all_goals exact ⟨_, _, rfl⟩
        · simp only [if_neg q3]
          by_cases q2 : rd σ (p + 4) i = -1
          · simp only [if_pos q2]
            rw [decide_eq_false (by omega), if_neg Bool.false_ne_true]; exact ⟨_, _, rfl⟩
          · simp only [if_neg q2]
            by_cases q4 : rd σ (p + 4) i = rd σ (p + 4) x
            · simp only [if_pos q4]
              rw [decide_eq_true (by omega), if_pos rfl]; exact ⟨_, _, rfl⟩
            · simp only [if_neg q4]
              rw [decide_eq_false (by omega), if_neg Bool.false_ne_true]; exact ⟨_, _, rfl⟩
  have ind : ∀ (k : Nat) (i : Int) (s : Int32) (y4 y5 : Value), 0 ≤ i → i + k = rd σ p 0 → f_M_siblingsOf_4 d (zI x) s (zI i) y4 y5 σ = f_M_siblingsOf_4 d (zI x) s (zI i) .null .null σ := by
    intro k
    induction k with
    | zero => intro i s y4 y5 i0 hi; have : i = rd σ p 0 := by omega
              subst this; rw [fin, fin]
    | succ k ih =>
      intro i s y4 y5 i0 hi
      obtain ⟨a1, b1, e1⟩ := st y4 y5 i s i0 (by omega)
      obtain ⟨a2, b2, e2⟩ := st .null .null i s i0 (by omega)
      rw [e1, e2, ih (i + 1) _ a1 b1 (by omega) (by omega), ih (i + 1) _ a2 b2 (by omega) (by omega)]
  have L := setloop (n := rd σ p 0) (σ := σ) (F := fun i s => f_M_siblingsOf_4 d (zI x) s (zI i) .null .null σ) (P := sbP (rd σ (p + 3)) (rd σ (p + 4)) x) (fun i s i0 i1 => by
    obtain ⟨a1, b1, e1⟩ := st .null .null i s i0 i1
    show f_M_siblingsOf_4 d (zI x) s (zI i) .null .null σ = f_M_siblingsOf_4 d (zI x) _ (zI (i + 1)) .null .null σ
    rw [e1, ind (rd σ p 0 - (i + 1)).toNat (i + 1) _ a1 b1 (by omega) (by omega)]) (fun s => fin _ _ s) m0 (by omega)
  obtain ⟨s, es, hs⟩ := L
  rw [f_M_siblingsOf_eq, zI_0, show f_M_siblingsOf_4 d (zI x) (zI 0) (zI 0) .null .null σ = rI s σ from es]
  refine congrArg (rI · σ) (gb_ext fun y y0 y1 => ?_)
  rw [hs y y0 y1, (h.2.2.2.1 x y x0 x1 y0 y1).2]
  unfold sbP
  rw [← Bool.decide_and]
/-! LINE -/
theorem gb_sh1 (s : Int32) {k : Int} (h : 0 ≤ k) (h' : k < 32) : ((s >>> (zI k &&& zI 31)) &&& zI 1 = zI 0) = (gb s k = false) := by
  rw [sh_bz s h h', bz_0]
/-- all that come from p by steps to higher ones: one pass is enough -/
def lfpU (m p : Int) (nx : Int → Int32) (A : Int32) : Prop := ∀ y, 0 ≤ y → y < 32 → (gb A y = true ↔ gb (nx p) y = true ∨ ∃ e, 0 ≤ e ∧ e < m ∧ gb A e = true ∧ gb (nx e) y = true)
theorem comeN_sp {σ : Sg} {r p : Nat} (h : IRoll r p σ) (hp : isP p) {d : Nat} {x : Int} (x0 : 0 ≤ x) (x1 : x < rd σ p 0) : ∃ A, f_Roll_comeFrom (d + 1) p (zI x) σ = rI A σ ∧ lfpU (rd σ p 0) x (fun e => σ.1 (p + 6) e.toNat) A ∧ ∀ y, rd σ p 0 ≤ y → y < 32 → gb A y = false := by
  obtain ⟨m0, m24, ok⟩ := h.1
  have em : σ.1 p 0 = zI (rd σ p 0) := rd_k _ _ _
  -- children are higher
  have hi : ∀ e y, 0 ≤ e → e < rd σ p 0 → 0 ≤ y → y < 32 → gb (σ.1 (p + 6) e.toNat) y = true → e < y ∧ y < rd σ p 0 := fun e y e0 e1 y0 y1 q => by
    rw [(h.2.2.2.1 e y e0 e1 y0 y1).1] at q
    have q := of_decide_eq_true q
    obtain ⟨-, -, -, df, dg, -⟩ := ok y y0 q.1
    omega
  rw [f_Roll_comeFrom_eq, gfS_of hp.s0, ofs_4_6, ldi_of hp.s6 x0 (by omega) (by omega), show (1 : Int32) = zI 1 from zI_lit 1, zI_add]
  have st : ∀ (v : Value) (i : Int) (s : Int32), 0 ≤ i → i < rd σ p 0 → ∃ v', f_Roll_comeFrom_11 d p v s (zI i) σ = f_Roll_comeFrom_11 d p v' (if gb s i = true then s ||| σ.1 (p + 6) i.toNat else s) (zI (i + 1)) σ := fun v i s i0 i1 => by
    rw [f_Roll_comeFrom_11_eq, gfI_of hp.s0, em, if_pos (by rw [zI_le (by omega) (by omega)]; exact i1), show (1 : Int32) = zI 1 from zI_lit 1, show (31 : Int32) = zI 31 from zI_lit 31, zI_0, zI_add]
    cases q : gb s i with
    | false => rw [if_pos ((gb_sh1 s i0 (by omega)).mpr q), if_neg Bool.false_ne_true]; exact ⟨_, rfl⟩
    | true => rw [if_neg (fun z => by rw [(gb_sh1 s i0 (by omega)).mp z] at q; cases q), gfS_of hp.s0, ofs_4_6, ldi_of hp.s6 i0 (by omega) (by omega), if_pos rfl]; exact ⟨_, rfl⟩
  have main : ∀ (k : Nat) (i : Int) (s : Int32) (v : Value), i + k = rd σ p 0 → x < i →
      (∀ y, rd σ p 0 ≤ y → y < 32 → gb s y = false) →
      (∀ y, 0 ≤ y → y < 32 → (gb s y = true ↔ gb (σ.1 (p + 6) x.toNat) y = true ∨ ∃ e, 0 ≤ e ∧ e < i ∧ gb s e = true ∧ gb (σ.1 (p + 6) e.toNat) y = true)) →
      ∃ A, f_Roll_comeFrom_11 d p v s (zI i) σ = rI A σ ∧ lfpU (rd σ p 0) x (fun e => σ.1 (p + 6) e.toNat) A ∧ ∀ y, rd σ p 0 ≤ y → y < 32 → gb A y = false := by
    intro k
    induction k with
    | zero =>
      intro i s v hk hx hz hs
      have : i = rd σ p 0 := by omega
      subst this
      exact ⟨s, by rw [f_Roll_comeFrom_11_eq, gfI_of hp.s0, em, if_neg Int32.lt_irrefl], hs, hz⟩
    | succ k ih =>
      intro i s v hk hx hz hs
      obtain ⟨v', e⟩ := st v i s (by omega) (by omega)
      rw [e]
      refine ih (i + 1) _ v' (by omega) (by omega) (fun y y0 y1 => ?_) (fun y y0 y1 => ?_)
      · split
        · rw [gb_or, hz y y0 y1, Bool.false_or]
          cases q : gb (σ.1 (p + 6) i.toNat) y with
          | false => rfl
          | true => have := hi i y (by omega) (by omega) (by omega) y1 q; omega
        · exact hz y y0 y1
      · by_cases q : gb s i = true
        · rw [if_pos q, gb_or, Bool.or_eq_true, hs y y0 y1]
          constructor
          · rintro ((h1 | ⟨e, e0, e1, e2, e3⟩) | h2)
            · exact Or.inl h1
            · exact Or.inr ⟨e, e0, by omega, by rw [gb_or, e2]; rfl, e3⟩
            · exact Or.inr ⟨i, by omega, by omega, by rw [gb_or, q]; rfl, h2⟩
          · rintro (h1 | ⟨e, e0, e1, e2, e3⟩)
            · exact Or.inl (Or.inl h1)
            · by_cases ei : e = i
              · subst ei; exact Or.inr e3
              · rw [gb_or, Bool.or_eq_true] at e2
                rcases e2 with e2 | e2
                · exact Or.inl (Or.inr ⟨e, e0, by omega, e2, e3⟩)
                · have := hi i e (by omega) (by omega) e0 (by omega) e2; omega
        · rw [if_neg q, hs y y0 y1]
          constructor
          · rintro (h1 | ⟨e, e0, e1, e2, e3⟩)
            · exact Or.inl h1
            · exact Or.inr ⟨e, e0, by omega, e2, e3⟩
          · rintro (h1 | ⟨e, e0, e1, e2, e3⟩)
            · exact Or.inl h1
            · by_cases ei : e = i
              · subst ei; exact absurd e2 q
              · exact Or.inr ⟨e, e0, by omega, e2, e3⟩
  refine main (rd σ p 0 - (x + 1)).toNat (x + 1) _ _ (by omega) (by omega) (fun y y0 y1 => ?_) (fun y y0 y1 => ?_)
  · cases q : gb (σ.1 (p + 6) x.toNat) y with
    | false => rfl
    | true => have := hi x y x0 x1 (by omega) y1 q; omega
  · constructor
    · exact Or.inl
    · rintro (h1 | ⟨e, e0, e1, e2, e3⟩)
      · exact h1
      · have := hi x e x0 x1 e0 (by omega) e2; omega
/-- the parents of one -/
def par (F G : Int → Int) (e : Int) : Int32 := bitF (F e) ||| bitF (G e)
theorem aheadN_sp {σ : Sg} {r p : Nat} (h : IRoll r p σ) (hp : isP p) (n6 : rd σ r 0 ≤ 6) {d : Nat} {x : Int} (x0 : 0 ≤ x) (x1 : x < rd σ p 0) : ∃ A, f_Roll_aheadOf (d + 2) p (zI x) σ = rI A σ ∧ lfpU (rd σ p 0) x (par (rd σ (p + 3)) (rd σ (p + 4))) A ∧ ∀ y, rd σ p 0 ≤ y → y < 32 → gb A y = false := by
  obtain ⟨m0, m24, ok⟩ := h.1
  have hc := h.c hp
  have lo : ∀ e y, 0 ≤ e → e < rd σ p 0 → 0 ≤ y → y < 32 → gb (par (rd σ (p + 3)) (rd σ (p + 4)) e) y = true → y < e := fun e y e0 e1 y0 y1 q => by
    obtain ⟨-, -, bf, bg, -⟩ := h.1.bd n6 e0 e1
    unfold par at q
    rw [gb_or, gb_bitF (by omega) y0 y1, gb_bitF (by omega) y0 y1, Bool.or_eq_true] at q
    obtain ⟨-, -, -, df, dg, -⟩ := ok e e0 e1
    rcases q with q | q <;> have q := of_decide_eq_true q <;> omega
  have one : ∀ (i : Int), 0 ≤ i → i < rd σ p 0 → ∀ (K : Int32 → Sg → Rs), (gfS 4 p 3 fun v1 => ldI v1 (zI i) σ fun v2 => cI (f_Roll_bit (d + 1) v2 σ) fun v4 σ3 => gfS 4 p 4 fun v5 => ldI v5 (zI i) σ3 fun v6 => cI (f_Roll_bit (d + 1) v6 σ3) fun v8 σ7 => K (v4 ||| v8) σ7) = K (par (rd σ (p + 3)) (rd σ (p + 4)) i) σ := fun i i0 i1 K => by
    obtain ⟨-, -, f1, g1, -⟩ := hc.2.2 i i0
    obtain ⟨-, -, bf, bg, -⟩ := h.1.bd n6 i0 i1
    rw [gfS_of hp.s0, ofs_4_3, ldi_of hp.s3 i0 (by omega) (by omega), f1, bitN_sp (by omega), cI_rI, gfS_of hp.s0, ofs_4_4, ldi_of hp.s4 i0 (by omega) (by omega), g1, bitN_sp (by omega), cI_rI]; rfl
  have st : ∀ (v : Value) (i : Int) (s : Int32), 0 ≤ i → i < rd σ p 0 → ∃ v', f_Roll_aheadOf_24 (d + 1) p v s (zI i) σ = f_Roll_aheadOf_24 (d + 1) p v' (if gb s i = true then s ||| par (rd σ (p + 3)) (rd σ (p + 4)) i else s) (zI (i - 1)) σ := fun v i s i0 i1 => by
    have e1 : zI i + zI (-1) = zI (i - 1) := by rw [zI_add]; exact congrArg zI (by omega)
    rw [f_Roll_aheadOf_24_eq, if_neg (by rw [zI_0, zI_le (by omega) (by decide)]; omega), show (-1 : Int32) = zI (-1) from rfl, e1]
    cases q : gb s i with
    | false => rw [show (1 : Int32) = zI 1 from zI_lit 1, show (31 : Int32) = zI 31 from zI_lit 31, zI_0, if_pos ((gb_sh1 s i0 (by omega)).mpr q), if_neg Bool.false_ne_true]; exact ⟨_, rfl⟩
    | true =>
      rw [if_neg (by rw [show (1 : Int32) = zI 1 from zI_lit 1, show (31 : Int32) = zI 31 from zI_lit 31, zI_0]; intro z; rw [(gb_sh1 s i0 (by omega)).mp z] at q; cases q), if_pos rfl]
      have := one i i0 i1 (fun w τ => f_Roll_aheadOf_24 (d + 1) p (nlg v) (s ||| w) (zI (i - 1)) τ)
      exact ⟨nlg v, this⟩
  have main : ∀ (k : Nat) (i : Int) (s : Int32) (v : Value), i + 1 = k → i < x →
      (∀ y, rd σ p 0 ≤ y → y < 32 → gb s y = false) →
      (∀ y, 0 ≤ y → y < 32 → (gb s y = true ↔ gb (par (rd σ (p + 3)) (rd σ (p + 4)) x) y = true ∨ ∃ e, i < e ∧ 0 ≤ e ∧ e < rd σ p 0 ∧ gb s e = true ∧ gb (par (rd σ (p + 3)) (rd σ (p + 4)) e) y = true)) →
      ∃ A, f_Roll_aheadOf_24 (d + 1) p v s (zI i) σ = rI A σ ∧ lfpU (rd σ p 0) x (par (rd σ (p + 3)) (rd σ (p + 4))) A ∧ ∀ y, rd σ p 0 ≤ y → y < 32 → gb A y = false := by
    intro k
    induction k with
    | zero =>
      intro i s v hk hx hz hs
      have : i = -1 := by omega
      subst this
      refine ⟨s, by rw [f_Roll_aheadOf_24_eq, if_pos (by decide)], fun y y0 y1 => ?_, hz⟩
      rw [hs y y0 y1]
      constructor
      · rintro (h1 | ⟨e, e0, e1, e2, e3⟩)
        · exact Or.inl h1
        · exact Or.inr ⟨e, e1, e2, e3⟩
      · rintro (h1 | ⟨e, e1, e2, e3⟩)
        · exact Or.inl h1
        · exact Or.inr ⟨e, by omega, e1, e2, e3⟩
    | succ k ih =>
      intro i s v hk hx hz hs
      obtain ⟨v', e⟩ := st v i s (by omega) (by omega)
      rw [e]
      refine ih (i - 1) _ v' (by omega) (by omega) (fun y y0 y1 => ?_) (fun y y0 y1 => ?_)
      · split
        · rw [gb_or, hz y y0 y1, Bool.false_or]
          cases q : gb (par (rd σ (p + 3)) (rd σ (p + 4)) i) y with
          | false => rfl
          | true => have := lo i y (by omega) (by omega) (by omega) y1 q; omega
        · exact hz y y0 y1
      · by_cases q : gb s i = true
        · rw [if_pos q, gb_or, Bool.or_eq_true, hs y y0 y1]
          constructor
          · rintro ((h1 | ⟨e, e0, e1, e2, e3, e4⟩) | h2)
            · exact Or.inl h1
            · exact Or.inr ⟨e, by omega, e1, e2, by rw [gb_or, e3]; rfl, e4⟩
            · exact Or.inr ⟨i, by omega, by omega, by omega, by rw [gb_or, q]; rfl, h2⟩
          · rintro (h1 | ⟨e, e0, e1, e2, e3, e4⟩)
            · exact Or.inl (Or.inl h1)
            · by_cases ei : e = i
              · subst ei; exact Or.inr e4
              · rw [gb_or, Bool.or_eq_true] at e3
                rcases e3 with e3 | e3
                · exact Or.inl (Or.inr ⟨e, by omega, e1, e2, e3, e4⟩)
                · have := lo i e (by omega) (by omega) e1 (by omega) e3; omega
        · rw [if_neg q, hs y y0 y1]
          constructor
          · rintro (h1 | ⟨e, e0, e1, e2, e3, e4⟩)
            · exact Or.inl h1
            · exact Or.inr ⟨e, by omega, e1, e2, e3, e4⟩
          · rintro (h1 | ⟨e, e0, e1, e2, e3, e4⟩)
            · exact Or.inl h1
            · by_cases ei : e = i
              · subst ei; exact absurd e3 q
              · exact Or.inr ⟨e, by omega, e1, e2, e3, e4⟩
  have hd : f_Roll_aheadOf (d + 2) p (zI x) σ = f_Roll_aheadOf_24 (d + 1) p (.int (zI x)) (par (rd σ (p + 3)) (rd σ (p + 4)) x) (zI (x - 1)) σ := by
    have e1 : zI x - 1 = zI (x - 1) := by rw [zI_lit, zI_sub]
    rw [f_Roll_aheadOf_eq]
    have := one x x0 x1 (fun w τ => f_Roll_aheadOf_24 (d + 1) p (.int (zI x)) w (zI x - 1) τ)
    rw [this, e1]
  rw [hd]
  refine main x.toNat (x - 1) _ _ (by omega) (by omega) (fun y y0 y1 => ?_) (fun y y0 y1 => ?_)
  · cases q : gb (par (rd σ (p + 3)) (rd σ (p + 4)) x) y with
    | false => rfl
    | true => have := lo x y x0 x1 (by omega) y1 q; omega
  · constructor
    · exact Or.inl
    · rintro (h1 | ⟨e, e0, e1, e2, e3, e4⟩)
      · exact h1
      · have := lo x e x0 x1 e1 (by omega) e3; omega
/-- the reference: rounds till nothing changes -/
theorem comeM_sp {σ : Sg} {d : Nat} {m x : Int} {w : Int32} {nx : Int → Int32} {A : Int32} (em : σ.1 102 69 = zI m) (m0 : 0 ≤ m) (m24 : m ≤ 24) (x0 : 0 ≤ x) (x1 : x < m)
    (hst : ∀ (e : Int) (s b : Int32) (v : Int32), 0 ≤ e → e < m → f_M_comeFrom_17 d (zI x) w s b (zI e) σ = f_M_comeFrom_17 d (zI x) w (if e = x ∨ gb b e = true then s ||| nx e else s) b (zI (e + 1)) σ)
    (hA : lfpU m x nx A) (hz : ∀ y, m ≤ y → y < 32 → gb A y = false) (rank : Int → Int) (hr0 : ∀ y, 0 ≤ y → y < m → 0 ≤ rank y ∧ rank y < 24) (hr : ∀ e y, 0 ≤ e → e < m → 0 ≤ y → y < 32 → gb (nx e) y = true → y < m ∧ rank e < rank y) : f_M_comeFrom (d + 1) (zI x) w σ = rI A σ := by
  -- one round
  have round : ∀ (k : Nat) (i : Int) (s b : Int32), 0 ≤ i → i + k = m → ∃ t, f_M_comeFrom_17 d (zI x) w s b (zI i) σ = f_M_comeFrom_5 d (zI x) w t b (.int (zI m)) σ ∧ ∀ y, 0 ≤ y → y < 32 → (gb t y = true ↔ gb s y = true ∨ ∃ e, i ≤ e ∧ e < m ∧ (e = x ∨ gb b e = true) ∧ gb (nx e) y = true) := by
    intro k
    induction k with
    | zero =>
      intro i s b i0 hi
      have : i = m := by omega
      subst this
      refine ⟨s, by rw [f_M_comeFrom_17_eq, em, if_neg Int32.lt_irrefl], fun y y0 y1 => ⟨Or.inl, ?_⟩⟩
      rintro (h | ⟨e, e0, e1, -⟩)
      · exact h
      · omega
    | succ k ih =>
      intro i s b i0 hi
      obtain ⟨t, e, ht⟩ := ih (i + 1) (if i = x ∨ gb b i = true then s ||| nx i else s) b (by omega) (by omega)
      refine ⟨t, by rw [hst i s b 0 i0 (by omega)]; exact e, fun y y0 y1 => ?_⟩
      rw [ht y y0 y1]
      by_cases q : i = x ∨ gb b i = true
      · rw [if_pos q, gb_or, Bool.or_eq_true]
        constructor
        · rintro ((h | h) | ⟨e, e0, e1, e2, e3⟩)
          · exact Or.inl h
          · exact Or.inr ⟨i, Int.le_refl _, by omega, q, h⟩
          · exact Or.inr ⟨e, by omega, e1, e2, e3⟩
        · rintro (h | ⟨e, e0, e1, e2, e3⟩)
          · exact Or.inl (Or.inl h)
          · by_cases ei : e = i
            · subst ei; exact Or.inl (Or.inr e3)
            · exact Or.inr ⟨e, by omega, e1, e2, e3⟩
      · rw [if_neg q]
        constructor
        · rintro (h | ⟨e, e0, e1, e2, e3⟩)
          · exact Or.inl h
          · exact Or.inr ⟨e, by omega, e1, e2, e3⟩
        · rintro (h | ⟨e, e0, e1, e2, e3⟩)
          · exact Or.inl h
          · by_cases ei : e = i
            · subst ei; exact absurd e2 q
            · exact Or.inr ⟨e, by omega, e1, e2, e3⟩
  have Az : ∀ y, 0 ≤ y → y < 32 → gb A y = true → y < m := fun y y0 y1 q => Classical.byContradiction fun z => by
    rw [hz y (by omega) y1] at q; cases q
  -- the rounds
  have rounds : ∀ (k : Nat) (s b : Int32) (v : Value), k ≤ 25 → s ≠ b → (∀ y, 0 ≤ y → y < 32 → gb s y = true → gb A y = true) → (∀ y, 0 ≤ y → y < m → rank y < 25 - (k : Int) → gb A y = true → gb s y = true) → f_M_comeFrom_5 d (zI x) w s b v σ = rI A σ := by
    intro k
    induction k with
    | zero =>
      intro s b v _ hsb h1 h2
      have hs : s = A := gb_ext fun y y0 y1 => by
        cases q : gb A y with
        | true => exact h2 y y0 (Az y y0 y1 q) (by have := hr0 y y0 (Az y y0 y1 q); omega) q
        | false => cases q' : gb s y with
          | false => rfl
          | true => rw [h1 y y0 y1 q'] at q; cases q
      rw [f_M_comeFrom_5_eq, if_neg hsb]
      obtain ⟨t, e, ht⟩ := round m.toNat 0 s s (by decide) (by omega)
      have hts : t = A := gb_ext fun y y0 y1 => by
        have := ht y y0 y1
        have hAy := hA y y0 y1
        rw [hs] at this
        cases q : gb A y with
        | true => exact this.mpr (Or.inl q)
        | false =>
          cases q' : gb t y with
          | false => rfl
          | true =>
            rcases this.mp q' with g | ⟨e, e0, e1, rfl | e2, e3⟩
            · rw [g] at q; cases q
            · rw [hAy.mpr (Or.inl e3)] at q; cases q
            · rw [hAy.mpr (Or.inr ⟨e, e0, e1, e2, e3⟩)] at q; cases q
      rw [zI_0, e, f_M_comeFrom_5_eq, if_pos (hts.trans hs.symm), hts]
    | succ k ih =>
      intro s b v hk hsb h1 h2
      rw [f_M_comeFrom_5_eq, if_neg hsb]
      obtain ⟨t, e, ht⟩ := round m.toNat 0 s s (by decide) (by omega)
      have t1 : ∀ y, 0 ≤ y → y < 32 → gb t y = true → gb A y = true := fun y y0 y1 q => by
        have hAy := hA y y0 y1
        rcases (ht y y0 y1).mp q with g | ⟨e, e0, e1, rfl | e2, e3⟩
        · exact h1 y y0 y1 g
        · exact hAy.mpr (Or.inl e3)
        · exact hAy.mpr (Or.inr ⟨e, e0, e1, h1 e e0 (by omega) e2, e3⟩)
      have t2 : ∀ y, 0 ≤ y → y < m → rank y < 25 - (k : Int) → gb A y = true → gb t y = true := fun y y0 y1 hy q => by
        rcases (hA y y0 (by omega)).mp q with g | ⟨e, e0, e1, e2, e3⟩
        · exact (ht y y0 (by omega)).mpr (Or.inr ⟨x, x0, x1, Or.inl rfl, g⟩)
        · have := hr e y e0 e1 y0 (by omega) e3
          exact (ht y y0 (by omega)).mpr (Or.inr ⟨e, e0, e1, Or.inr (h2 e e0 e1 (by omega) e2), e3⟩)
      rw [zI_0, e]
      by_cases q : t = s
      · -- nothing has changed: it is closed
        have hts : t = A := by
          have cl : ∀ (n : Nat) (y : Int), 0 ≤ y → y < m → rank y < n → gb A y = true → gb t y = true := by
            intro n
            induction n with
            | zero => intro y y0 y1 hn _; have := hr0 y y0 y1; omega
            | succ n ihn =>
              intro y y0 y1 hn g
              rcases (hA y y0 (by omega)).mp g with g | ⟨e, e0, e1, e2, e3⟩
              · exact (ht y y0 (by omega)).mpr (Or.inr ⟨x, x0, x1, Or.inl rfl, g⟩)
              · have := hr e y e0 e1 y0 (by omega) e3
                have ge := ihn e e0 e1 (by omega) e2
                rw [q] at ge
                exact (ht y y0 (by omega)).mpr (Or.inr ⟨e, e0, e1, Or.inr ge, e3⟩)
          exact gb_ext fun y y0 y1 => by
            cases g : gb A y with
            | true => exact cl 24 y y0 (Az y y0 y1 g) (hr0 y y0 (Az y y0 y1 g)).2 g
            | false => cases g' : gb t y with
              | false => rfl
              | true => rw [t1 y y0 y1 g'] at g; cases g
        rw [f_M_comeFrom_5_eq, if_pos q, hts]
      · exact ih t s _ (by omega) q t1 t2
  rw [f_M_comeFrom_eq, zI_0, show (-1 : Int32) = zI (-1) from rfl]
  refine rounds 25 (zI 0) (zI (-1)) .null (by decide) (by rw [ne_eq, zI_inj (by decide) (by decide) (by decide) (by decide)]; decide) (fun y _ _ q => by rw [gb_0] at q; cases q) fun y y0 y1 hy _ => ?_
  have := hr0 y y0 y1; omega
