/-! cousin -/
def pairF (n : Int) (G : Int → Int → Int → Int) (W : Int → Int) (a b : Int) : Prop := alB a = true ∧ alB b = true ∧ b % 2 = 1 ∧ ∀ x, 0 ≤ x → x < n → G b (a % 2) (G a 0 x) = W x
theorem isBlood_sp {σ : Sg} {d : Nat} {a : Int} (a0 : 0 ≤ a) (a8 : a < 8) : f_Row_isBlood (d + 1) (zI a) σ = rI (bz (alB a)) σ := by
  rw [f_Row_isBlood_eq, show (2 : Int32) = zI 2 from zI_lit 2, show (3 : Int32) = zI 3 from zI_lit 3]
  unfold alB
  by_cases z : a = 2
  · rw [if_pos (congrArg zI z), rZ_0, decide_eq_false (by omega)]; rfl
  · rw [if_neg (by rw [zI_eq (by omega) (by decide)]; exact z)]
    by_cases y : a = 3
    · rw [if_pos (congrArg zI y), rZ_0, decide_eq_false (by omega)]; rfl
    · rw [if_neg (by rw [zI_eq (by omega) (by decide)]; exact y), rZ_1, decide_eq_true ⟨z, y⟩]; rfl
theorem isCousin_sp {σ : Sg} {r d : Nat} {n : Int} (hr : RuleAt σ r n) (n0 : 0 ≤ n) {a b : Int} (a0 : 0 ≤ a) (a8 : a < 8) (b0 : 0 ≤ b) (b8 : b < 8) : ∃ t, f_Row_isCousin (d + 2) r (zI a) (zI b) σ = rI (bz t) σ ∧ (t = true ↔ pairF n (gOf σ r) (rd σ (r + 1)) a b) := by
  have n6 := hr.2.2.1
  have er : σ.1 r 0 = zI n := by rw [rd_k]; exact congrArg zI hr.2.1
  have loop : ∀ (k : Nat) (x : Int) (t0 : Bool) (v : Value), x + k = n → 0 ≤ x → (t0 = true ↔ (alB a = true ∧ alB b = true ∧ b % 2 = 1) ∧ ∀ y, 0 ≤ y → y < x → gOf σ r b (a % 2) (gOf σ r a 0 y) = rd σ (r + 1) y) → ∃ t, f_Row_isCousin_31 (d + 1) r (zI a) (zI b) (bz t0) (zI x) v σ = rI (bz t) σ ∧ (t = true ↔ pairF n (gOf σ r) (rd σ (r + 1)) a b) := by
    intro k
    induction k with
    | zero =>
      intro x t0 v hx x0 ht
      have : x = n := by omega
      subst this
      refine ⟨t0, ?_, ?_⟩
      · rw [f_Row_isCousin_31_eq, gfI_of hr.1.s0, er, if_neg Int32.lt_irrefl, rZ_bz]
      · rw [ht]; unfold pairF
        exact ⟨fun z => ⟨z.1.1, z.1.2.1, z.1.2.2, z.2⟩, fun z => ⟨⟨z.1, z.2.1, z.2.2.1⟩, z.2.2.2⟩⟩
    | succ k ih =>
      intro x t0 v hx x0 ht
      have x1 : x < n := by omega
      cases t0 with
      | false =>
        refine ⟨false, ?_, fun z => (by cases z), fun z => ht.mpr ⟨⟨z.1, z.2.1, z.2.2.1⟩, fun y y0 y1 => z.2.2.2 y y0 (by omega)⟩⟩
        rw [f_Row_isCousin_31_eq, gfI_of hr.1.s0, er, if_pos (by rw [zI_le (by omega) (by omega)]; exact x1), bz_ff, if_pos (by decide), rZ_z0]
      | true =>
        have hb := ht.mp rfl
        have g1 := gOf_lt hr a 0 x x0 x1
        have g2 := gOf_lt hr b (a % 2) _ g1.1 g1.2
        have go1 := go_sp hr (d := d) (k := a) (s := 0) (x := x) a0 a8 (by decide) (by decide) x0 x1
        have go2 := go_sp hr (d := d) (k := b) (s := a % 2) (x := gOf σ r a 0 x) b0 b8 (by omega) (by omega) g1.1 g1.2
        have wb := (hr.2.2.2 x x0 x1).1
        have go1 : f_Rule_go (d + 1) r (zI a) (zI 0) (zI x) σ = rI (zI (gOf σ r a 0 x)) σ := go1
        have go2 : f_Rule_go (d + 1) r (zI b) (zI (a % 2)) (zI (gOf σ r a 0 x)) σ = rI (zI (gOf σ r b (a % 2) (gOf σ r a 0 x))) σ := go2
        have ew : σ.1 (r + 1) x.toNat = zI (rd σ (r + 1) x) := by rw [rd_k, toNat_c x0]
        rw [f_Row_isCousin_31_eq, gfI_of hr.1.s0, er, if_pos (by rw [zI_le (by omega) (by omega)]; exact x1), bz_tt, if_neg (by decide), gdK_of hr.1.s0, zI_0, go1, cI_rI, sortBehind_sp a0 a8, cI_rI, gdK_of hr.1.s0, go2, cI_rI, gfS_of hr.1.s0, ofs_6_1, ldi_of hr.1.s1 x0 (by omega) (by omega), ew, show (1 : Int32) = zI 1 from zI_lit 1, zI_add]
        by_cases z : gOf σ r b (a % 2) (gOf σ r a 0 x) = rd σ (r + 1) x
        · rw [if_pos (congrArg zI z)]
          exact ih (x + 1) true _ (by omega) (by omega) ⟨fun _ => ⟨hb.1, fun y y0 y1 => by
            by_cases q : y = x
            · rw [q]; exact z
            · exact hb.2 y y0 (by omega)⟩, fun _ => rfl⟩
        · rw [if_neg (by rw [zI_eq (by omega) (by omega)]; exact z)]
          exact ih (x + 1) false _ (by omega) (by omega) ⟨fun q => (by cases q), fun q => absurd (q.2 x x0 (by omega)) z⟩
  rw [f_Row_isCousin_eq, isBlood_sp a0 a8, cI_rI, zI_0, show (1 : Int32) = zI 1 from zI_lit 1]
  cases ha : alB a with
  | false =>
    rw [bz_ff, if_pos rfl]
    exact loop n.toNat 0 false _ (by omega) (by decide) ⟨fun q => (by cases q), fun q => by rw [ha] at q; cases q.1.1⟩
  | true =>
    rw [bz_tt, if_neg (by decide), isBlood_sp b0 b8, cI_rI]
    cases hb : alB b with
    | false =>
      rw [bz_ff, if_pos rfl]
      exact loop n.toNat 0 false _ (by omega) (by decide) ⟨fun q => (by cases q), fun q => by rw [hb] at q; cases q.1.2.1⟩
    | true =>
      rw [bz_tt, if_neg (by decide), sortBehind_sp b0 b8, cI_rI]
      by_cases z : b % 2 = 1
      · rw [if_pos (congrArg zI z)]
        exact loop n.toNat 0 true _ (by omega) (by decide) ⟨fun _ => ⟨⟨ha, hb, z⟩, fun y y0 y1 => by omega⟩, fun _ => rfl⟩
      · rw [if_neg (by rw [zI_eq (by omega) (by decide)]; exact z)]
        exact loop n.toNat 0 false _ (by omega) (by decide) ⟨fun q => (by cases q), fun q => absurd q.1.2.2 z⟩
theorem findCousin_sp {σ : Sg} {r d : Nat} {n : Int} (hr : RuleAt σ r n) (n0 : 0 ≤ n) : ∃ σ', f_Row_findCousin (d + 3) r σ = rI (zI 1) σ' ∧ Fr SWb σ σ' ∧ ((∃ c, 0 ≤ c ∧ c < 8 ∧ pairF n (gOf σ r) (rd σ (r + 1)) 6 c ∧ (∀ k, 0 ≤ k → k < c → ¬ pairF n (gOf σ r) (rd σ (r + 1)) 6 k) ∧ σ'.1 61 0 = zI 1 ∧ σ'.1 62 0 = zI c) ∨ (∀ k, 0 ≤ k → k < 8 → ¬ pairF n (gOf σ r) (rd σ (r + 1)) 6 k) ∧ ∃ a b, (0 ≤ a ∧ a < 8) ∧ (0 ≤ b ∧ b < 8) ∧ pairF n (gOf σ r) (rd σ (r + 1)) a b ∧ (∀ a' b', 0 ≤ a' → a' < 8 → 0 ≤ b' → b' < 8 → lxl a' b' a b → ¬ pairF n (gOf σ r) (rd σ (r + 1)) a' b') ∧ σ'.1 61 0 = zI 2 ∧ σ'.1 62 0 = zI a ∧ σ'.1 62 1 = zI b) := by
  have n6 := hr.2.2.1
  have pair41 : pairF n (gOf σ r) (rd σ (r + 1)) 4 1 := ⟨by decide, by decide, by decide, fun x x0 x1 => by
    obtain ⟨⟨a1, a2, -⟩, -⟩ := hr.2.2.2 x x0 x1
    obtain ⟨-, -, -, -, -, b5, -⟩ := hr.2.2.2 _ a1 a2
    exact b5⟩
  have two : (∀ k, 0 ≤ k → k < 8 → ¬ pairF n (gOf σ r) (rd σ (r + 1)) 6 k) → ∀ (b : Nat) (c : Int), c + b = 64 → 0 ≤ c → (∀ a' b', 0 ≤ a' → a' < 8 → 0 ≤ b' → b' < 8 → 8 * a' + b' < c → ¬ pairF n (gOf σ r) (rd σ (r + 1)) a' b') → ∃ σ', f_Row_findCousin_40 (d + 2) r (zI c) σ = rI (zI 1) σ' ∧ Fr SWb σ σ' ∧ ∃ a b, (0 ≤ a ∧ a < 8) ∧ (0 ≤ b ∧ b < 8) ∧ pairF n (gOf σ r) (rd σ (r + 1)) a b ∧ (∀ a' b', 0 ≤ a' → a' < 8 → 0 ≤ b' → b' < 8 → lxl a' b' a b → ¬ pairF n (gOf σ r) (rd σ (r + 1)) a' b') ∧ σ'.1 61 0 = zI 2 ∧ σ'.1 62 0 = zI a ∧ σ'.1 62 1 = zI b := by
    intro no b
    induction b with
    | zero =>
      intro c hc c0 h
      exact absurd pair41 (h 4 1 (by decide) (by decide) (by decide) (by decide) (by omega))
    | succ b ih =>
      intro c hc c0 h
      have a0 : 0 ≤ c / 8 := by omega
      have a8 : c / 8 < 8 := by omega
      have b0 : 0 ≤ c % 8 := by omega
      have b8 : c % 8 < 8 := by omega
      obtain ⟨t, t1, t2⟩ := isCousin_sp (σ := σ) (d := d) hr n0 a0 a8 b0 b8
      rw [f_Row_findCousin_40_eq, show (64 : Int32) = zI 64 from zI_lit 64, if_pos (by rw [zI_le (by omega) (by decide)]; omega), show (8 : Int32) = zI 8 from zI_lit 8, dvI_nn c0 (by omega) (by decide) (by decide), rmI_nn c0 (by omega) (by decide) (by decide), t1, cI_rI, zI_0, show (1 : Int32) = zI 1 from zI_lit 1, zI_add]
      cases t with
      | false =>
        rw [bz_ff, if_pos rfl]
        exact ih (c + 1) (by omega) (by omega) fun a' b' x0 x1 y0 y1 l p => by
          by_cases z : 8 * a' + b' = c
          · have := t2.mpr (by rw [show c / 8 = a' by omega, show c % 8 = b' by omega]; exact p)
            cases this
          · exact h a' b' x0 x1 y0 y1 (by omega) p
      | true =>
        refine ⟨sI (sI (sI σ 61 0 (zI 2)) 62 0 (zI (c / 8))) 62 1 (zI (c % 8)), ?_, (((Fr.rf _ σ).sI _ rfl).sI _ rfl).sI _ rfl, c / 8, c % 8, ⟨a0, a8⟩, ⟨b0, b8⟩, t2.mp rfl, fun a' b' x0 x1 y0 y1 l => h a' b' x0 x1 y0 y1 (by unfold lxl at l; omega), rfl, rfl, rfl⟩
        rw [bz_tt, if_neg (by decide), dvI_nn c0 (by omega) (by decide) (by decide), bnd_zI (by decide) (by decide) (by decide), rmI_nn c0 (by omega) (by decide) (by decide), bnd_zI (by decide) (by decide) (by decide), show (2 : Int32) = zI 2 from zI_lit 2, rZ_z1]
        rfl
  have one : ∀ (b : Nat) (c : Int), c + b = 8 → 0 ≤ c → (∀ k, 0 ≤ k → k < c → ¬ pairF n (gOf σ r) (rd σ (r + 1)) 6 k) → ∃ σ', f_Row_findCousin_2 (d + 2) r (zI c) σ = rI (zI 1) σ' ∧ Fr SWb σ σ' ∧ ((∃ c, 0 ≤ c ∧ c < 8 ∧ pairF n (gOf σ r) (rd σ (r + 1)) 6 c ∧ (∀ k, 0 ≤ k → k < c → ¬ pairF n (gOf σ r) (rd σ (r + 1)) 6 k) ∧ σ'.1 61 0 = zI 1 ∧ σ'.1 62 0 = zI c) ∨ (∀ k, 0 ≤ k → k < 8 → ¬ pairF n (gOf σ r) (rd σ (r + 1)) 6 k) ∧ ∃ a b, (0 ≤ a ∧ a < 8) ∧ (0 ≤ b ∧ b < 8) ∧ pairF n (gOf σ r) (rd σ (r + 1)) a b ∧ (∀ a' b', 0 ≤ a' → a' < 8 → 0 ≤ b' → b' < 8 → lxl a' b' a b → ¬ pairF n (gOf σ r) (rd σ (r + 1)) a' b') ∧ σ'.1 61 0 = zI 2 ∧ σ'.1 62 0 = zI a ∧ σ'.1 62 1 = zI b) := by
    intro b
    induction b with
    | zero =>
      intro c hc c0 h
      have : c = 8 := by omega
      subst this
      obtain ⟨σ', a1, a2, a3⟩ := two h 64 0 (by decide) (by decide) (fun a' b' x0 x1 y0 y1 l => by omega)
      refine ⟨σ', ?_, a2, Or.inr ⟨h, a3⟩⟩
      rw [f_Row_findCousin_2_eq, show (8 : Int32) = zI 8 from zI_lit 8, if_neg Int32.lt_irrefl, zI_0]
      exact a1
    | succ b ih =>
      intro c hc c0 h
      obtain ⟨t, t1, t2⟩ := isCousin_sp (σ := σ) (d := d) hr n0 (a := 6) (b := c) (by decide) (by decide) c0 (by omega)
      rw [f_Row_findCousin_2_eq, show (8 : Int32) = zI 8 from zI_lit 8, if_pos (by rw [zI_le (by omega) (by decide)]; omega), show (6 : Int32) = zI 6 from zI_lit 6, t1, cI_rI, zI_0, show (1 : Int32) = zI 1 from zI_lit 1, zI_add]
      cases t with
      | false =>
        rw [bz_ff, if_pos rfl]
        exact ih (c + 1) (by omega) (by omega) fun k k0 k1 p => by
          by_cases z : k = c
          · subst z; have := t2.mpr p; cases this
          · exact h k k0 (by omega) p
      | true =>
        refine ⟨sI (sI σ 61 0 (zI 1)) 62 0 (zI c), ?_, ((Fr.rf _ σ).sI _ rfl).sI _ rfl, Or.inl ⟨c, c0, by omega, t2.mp rfl, h, rfl, rfl⟩⟩
        rw [bz_tt, if_neg (by decide), bnd_zI (by decide) (by decide) (by decide), rZ_z1]
        rfl
  rw [f_Row_findCousin_eq, zI_0]
  exact one 8 0 (by decide) (by decide) fun k k0 k1 => by omega
def SCs (a k : Nat) : Bool := SWb a k || SCo a k
theorem one_iff {n : Int} {W H C M : Int → Int} {c : Int} : pairF n (goF W H C M) W 6 c ↔ alB c = true ∧ nxC n (goF W H C M) c (cut n (fun x => x), 0) = (cut n W, 1) := by
  have e : ∀ x, 0 ≤ x → x < n → goF W H C M c 0 (cut n (fun x => x) x) = goF W H C M c (6 % 2) (goF W H C M 6 0 x) := fun x x0 x1 => by rw [cut_at x0 x1]; rfl
  constructor
  · rintro ⟨-, h2, h3, h4⟩
    exact ⟨h2, Prod.ext (cut_eq.mpr fun x x0 x1 => (e x x0 x1).trans (h4 x x0 x1)) h3⟩
  · rintro ⟨h2, h3⟩
    exact ⟨by decide, h2, (congrArg Prod.snd h3 : c % 2 = 1), fun x x0 x1 => (e x x0 x1).symm.trans (cut_eq.mp (congrArg Prod.fst h3) x x0 x1)⟩
theorem two_iff {n : Int} {W H C M : Int → Int} {a b : Int} : pairF n (goF W H C M) W a b ↔ alB a = true ∧ alB b = true ∧ nxC n (goF W H C M) b (nxC n (goF W H C M) a (cut n (fun x => x), 0)) = (cut n W, 1) := by
  have e : ∀ x, 0 ≤ x → x < n → goF W H C M b (a % 2) (cut n (fun x => goF W H C M a 0 (cut n (fun x => x) x)) x) = goF W H C M b (a % 2) (goF W H C M a 0 x) := fun x x0 x1 => by rw [cut_at x0 x1, cut_at x0 x1]
  constructor
  · rintro ⟨h1, h2, h3, h4⟩
    exact ⟨h1, h2, Prod.ext (cut_eq.mpr fun x x0 x1 => (e x x0 x1).trans (h4 x x0 x1)) h3⟩
  · rintro ⟨h1, h2, h3⟩
    exact ⟨h1, h2, (congrArg Prod.snd h3 : b % 2 = 1), fun x x0 x1 => (e x x0 x1).symm.trans (cut_eq.mp (congrArg Prod.fst h3) x x0 x1)⟩
theorem c_cousin {σ : Sg} {r p l : Nat} (h : Inv r p l σ) (w : Int32) : Same (f_N_cousin 100 w) (f_M_cousin 100 w) σ := by
  obtain ⟨w, rfl, hw⟩ := zI_ex w
  obtain ⟨n1, n2, n3, n4⟩ := h.n
  have hb := h.bits
  have n02 := h.2.2.1.2.1
  have er0 : σ.1 r 0 = zI (rd σ r 0) := rd_k σ r 0
  have em0 : σ.1 102 5 = zI (rd σ r 0) := by rw [← n4]; exact rd_k σ 102 5
  have iN := isStep_sp (σ := σ) (d := 98) (a := w) (b := 100) hw (by decide)
  have iM := fun (τ : Sg) => isStepOr_sp (σ := τ) (d := 97) (a := w) (b := 99) hw (by decide)
  have k0 : (zI (rd σ r 0) = zI 0) = (rd σ r 0 = 0) := zI_eq (by omega) (by decide)
  by_cases q : ¬ (rd σ r 0 ≠ 0 ∧ (w = 100 ∨ 0 ≤ w ∧ w < 100))
  · refine ⟨-1, σ, σ, r, p, l, ?_, ?_, h⟩
    · rw [f_N_cousin_eq, n1, gfI_of n2, er0, zI_0]
      by_cases a1 : rd σ r 0 = 0
      · rw [if_pos (by rw [k0]; exact a1)]
      · rw [if_neg (by rw [k0]; exact a1), show (100 : Int32) = zI 100 from zI_lit 100, iN, cI_rI, decide_eq_false (by omega), bz_ff, if_pos rfl]
    · rw [f_M_cousin_eq, show (99 : Int32) = zI 99 from zI_lit 99, iM, cI_rI, zI_0]
      by_cases a1 : w = 100 ∨ 0 ≤ w ∧ w < 99 + 1
      · rw [decide_eq_true a1, bz_tt, if_neg (by decide), em0, if_pos (by rw [k0]; omega)]
      · rw [decide_eq_false a1, bz_ff, if_pos rfl]
  obtain ⟨q0, qw⟩ := Classical.not_not.mp q
  have n2' : 2 ≤ rd σ r 0 := by omega
  have w99 : w = 100 ∨ 0 ≤ w ∧ w < 99 + 1 := by omega
  have hru : RuleAt σ r (rd σ r 0) := h.2.2.1.1
  have hN : NmOk (rd σ r 0) (rd σ (r + 1)) (rd σ (r + 2)) (rd σ (r + 3)) (rd σ (r + 4)) := hru.2.2
  have hI : ∀ τ, Fr SCs σ τ → Inv r p l τ := fun τ F => by
    refine h.scr F ?_ ?_ (by rcases hb.2.2 with rfl | rfl <;> rfl) (by rcases hb.2.2 with rfl | rfl <;> repeat (first | exact trivial | refine ⟨fun _ => rfl, ?_⟩ | refine ⟨rfl, ?_⟩)) ?_ ⟨rfl, rfl⟩
    · repeat (first | exact trivial | refine ⟨fun _ => rfl, ?_⟩ | refine ⟨rfl, ?_⟩)
    · repeat (first | exact trivial | refine ⟨fun _ => rfl, ?_⟩ | refine ⟨rfl, ?_⟩)
    · repeat (first | exact trivial | refine ⟨fun _ => rfl, ?_⟩ | refine ⟨rfl, ?_⟩)
  obtain ⟨σ1, a1, F1, hN1⟩ := findCousin_sp (d := 96) hru n3.1
  have F1' : Fr SCs σ σ1 := F1.mono fun a k e => by simp only [SCs, Bool.or_eq_false_iff] at e; exact e.1
  obtain ⟨Q, pr, kd, fa, m, g, σ2, b1, b2, b3, b4, b5, F2⟩ := laysCousins_sp (d := 94) (h.2.2.1.mr4.fr F1' rfl (fun _ => rfl) (fun _ => rfl)) hN ((F1'.2 _ _ rfl).trans em0) n2' (fun x x0 x1 => by rw [F1'.2 _ _ rfl, rd_k, toNat_c x0, (h.2.2.1.2.2.2 x x0 x1).1])
  have F02 : Fr SCs σ σ2 := F1'.tr (F2.mono fun a k e => by simp only [SCs, Bool.or_eq_false_iff] at e; exact e.2)
  have mle := nodes_le n2' n3.2 (fun j jm => (b5.2.1 j jm).1) b2.2.1
  have fb := fac_bd (rd σ r 0).toNat (by omega)
  have hG : gOf σ r = goF (rd σ (r + 1)) (rd σ (r + 2)) (rd σ (r + 3)) (rd σ (r + 4)) := rfl
  rw [hG] at hN1
  have sg : ((cut (rd σ r 0) (fun x => x), 0) : Nd) ≠ (cut (rd σ r 0) (rd σ (r + 1)), 1) := fun e => by
    have : (0 : Int) = 1 := congrArg Prod.snd e
    omega
  have startN : f_N_cousin 100 (zI w) σ = cI (f_Row_tell 99 (zI w) σ1) fun v7 σ6 => rI v7 σ6 := by
    rw [f_N_cousin_eq, n1, gfI_of n2, er0, zI_0, if_neg (by rw [k0]; exact q0), show (100 : Int32) = zI 100 from zI_lit 100, iN, cI_rI, decide_eq_true qw, bz_tt, if_neg (by decide), n1, a1, cI_rI, if_neg (by decide)]
  have bg : ∀ (j : Nat) (X : Rs), j < m → bnd (zI (j : Int)) 1440 X = X := fun j X hj => bnd_zI (by omega) (by omega) (by omega)
  have ig : ∀ j : Nat, j < m → ix (zI (j : Int)) = j := fun j hj => by rw [ix_zI (by omega) (by omega), Int.toNat_natCast]
  have fg := b5.2.2.2.2 g b3
  have cg := (b5.2.1 g b3).2.2.2
  have startM : f_M_cousin 100 (zI w) σ1 = if w = 100 then rI (zI (fa g)) σ2 else if w < fa g then f_M_cousin_57 99 (zI w) (zI (g : Int)) σ2 else rI (-4) σ2 := by
    have k1 : (zI w = zI 100) = (w = 100) := zI_eq hw (by decide)
    have k2 : (zI w < zI (fa g)) = (w < fa g) := zI_le hw (by omega)
    rw [f_M_cousin_eq, show (99 : Int32) = zI 99 from zI_lit 99, iM, cI_rI, zI_0, decide_eq_true w99, bz_tt, if_neg (by decide), (F1'.2 102 5 rfl).trans em0, if_neg (by rw [k0]; exact q0), b1, cI_rI, show (-1 : Int32) = zI (-1) from rfl, if_neg (by rw [zI_eq (by omega) (by decide)]; omega), bg g _ b3, bg g _ b3, ig g b3, cg, show (100 : Int32) = zI 100 from zI_lit 100]
    simp only [k1, k2]
  have step57 : ∀ (j : Nat), 1 ≤ j → j < m → 0 ≤ w → w ≤ 1000 → f_M_cousin_57 99 (zI w) (zI (j : Int)) σ2 = if w + 1 < fa j then f_M_cousin_57 99 (zI w) (zI (pr j : Int)) σ2 else rI (FC 1 (ix (zI (kd j)))) σ2 := fun j j1 jm w0 w1 => by
    obtain ⟨c1, c2, c3, -⟩ := b5.fa1 j1 jm
    obtain ⟨-, -, kk0, kk8, -⟩ := b2.2.2.1 j j1 jm
    have fj := b5.2.2.2.2 j jm
    have k3 : (zI (w + 1) < zI (fa j)) = (w + 1 < fa j) := zI_le (by omega) (by omega)
    rw [f_M_cousin_57_eq, bg j _ jm, bg j _ jm, bg j _ jm, ig j jm, c1, c2, c3, show (1 : Int32) = zI 1 from zI_lit 1, zI_add, letterOf_sp kk0 kk8, cI_rI]
    simp only [k3]
  rcases hN1 with ⟨c, c0, c8, pc, pl, r61, r62⟩ | ⟨no, a, b, ⟨a0, a8⟩, ⟨b0, b8⟩, pab, pl, r61, r62, r63⟩
  · obtain ⟨al, ec⟩ := one_iff.mp pc
    obtain ⟨g1, pg, kg⟩ := b2.one b3 b4 sg c0 c8 al ec (fun k x0 x1 al' e => pl k x0 x1 (one_iff.mpr ⟨al', e⟩))
    have fg1 : fa g = 1 := by
      have := (b5.fa1 g1 b3).2.2.2
      rw [pg, b5.2.2.2.1] at this; omega
    have tl := tell_sp (σ := σ1) (d := 98) (a := w) (s := 1) hw (rd_of (x := 0) r61 (by decide) (by decide)) (by decide) (by decide) (fun x x0 x1 => by
      have : x = 0 := by omega
      subst this
      rw [rd_of (x := 0) r62 (by omega) (by omega)]; exact ⟨c0, c8⟩)
    refine ⟨if w = 100 then zI 1 else if 0 ≤ w ∧ w < 1 then FC 1 (ix (zI (rd σ1 62 w))) else zI (-4), σ1, σ2, r, p, l, by rw [startN, tl, cI_rI], ?_, hI σ2 F02⟩
    rw [startM, fg1]
    by_cases y : w = 100
    · rw [if_pos y, if_pos y]
    · rw [if_neg y, if_neg y]
      by_cases z : w < 1
      · have : w = 0 := by omega
        subst this
        rw [if_pos z, if_pos ⟨by decide, z⟩, step57 g g1 b3 (by decide) (by decide), fg1, if_neg (by decide), kg, rd_of (x := 0) r62 (by omega) (by omega)]
      · rw [if_neg z, if_neg (fun q => z q.2)]; rfl
  · obtain ⟨al, bl, ec⟩ := two_iff.mp pab
    obtain ⟨g1, pg, ppg, kpg, kg⟩ := b2.two b3 b4 sg (fun k x0 x1 al' e => no k x0 x1 (one_iff.mpr ⟨al', e⟩)) a0 a8 b0 b8 al bl ec (fun a' b' x0 x1 y0 y1 l al' bl' e => pl a' b' x0 x1 y0 y1 l (two_iff.mpr ⟨al', bl', e⟩))
    have pm : pr g < m := by have := (b2.2.2.1 g g1 b3).1; omega
    have fpg : fa (pr g) = 1 := by
      have := (b5.fa1 pg pm).2.2.2
      rw [ppg, b5.2.2.2.1] at this; omega
    have fg2 : fa g = 2 := by
      have := (b5.fa1 g1 b3).2.2.2
      rw [fpg] at this; omega
    have w8 : ∀ x : Int, 0 ≤ x → x < 2 → rd σ1 62 x = (if x = 0 then a else b) := fun x x0 x1 => by
      by_cases z : x = 0
      · subst z; rw [if_pos rfl]; exact rd_of (x := 0) r62 (by omega) (by omega)
      · have : x = 1 := by omega
        subst this
        rw [if_neg (by decide)]; exact rd_of (x := 1) r63 (by omega) (by omega)
    have tl := tell_sp (σ := σ1) (d := 98) (a := w) (s := 2) hw (rd_of (x := 0) r61 (by decide) (by decide)) (by decide) (by decide) (fun x x0 x1 => by
      rw [w8 x x0 x1]; split <;> omega)
    refine ⟨if w = 100 then zI 2 else if 0 ≤ w ∧ w < 2 then FC 1 (ix (zI (rd σ1 62 w))) else zI (-4), σ1, σ2, r, p, l, by rw [startN, tl, cI_rI], ?_, hI σ2 F02⟩
    rw [startM, fg2]
    by_cases y : w = 100
    · rw [if_pos y, if_pos y]
    · rw [if_neg y, if_neg y]
      by_cases z : w < 2
      · rw [if_pos z, if_pos ⟨by omega, z⟩, step57 g g1 b3 (by omega) (by omega), fg2, w8 w (by omega) z]
        by_cases u : w = 0
        · subst u
          rw [if_pos (by decide), step57 (pr g) pg pm (by decide) (by decide), fpg, if_neg (by decide), kpg, if_pos rfl]
        · rw [if_neg (by omega), kg, if_neg u]
      · rw [if_neg z, if_neg (fun q => z q.2)]; rfl
