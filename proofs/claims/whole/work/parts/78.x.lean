/-! sides and even in the reference; ways -/
theorem sideOf_sp {τ : Sg} {d : Nat} {n : Int} {S : QSt} (n2 : 2 ≤ n) (n6 : n ≤ 6) (hS : QOk n S) (hb : WB n S τ) {x : Int} (x0 : 0 ≤ x) (x1 : x < n) : ∃ u, f_M_sideOf (d + 2) (zI x) τ = rI u τ ∧ ∀ y, 0 ≤ y → y < 32 → (gb u y = true ↔ ∃ j, j < S.2 ∧ S.1 j x = y) := by
  have fb := fac_bd n.toNat (by omega)
  have sle := hS.le n2 n6
  have main : ∀ (b k : Nat) (s : Int32), k + b = S.2 → (∀ y, 0 ≤ y → y < 32 → (gb s y = true ↔ ∃ j, j < k ∧ S.1 j x = y)) → ∃ u, f_M_sideOf_4 (d + 1) (zI x) s (zI (k : Int)) τ = rI u τ ∧ ∀ y, 0 ≤ y → y < 32 → (gb u y = true ↔ ∃ j, j < S.2 ∧ S.1 j x = y) := by
    intro b
    induction b with
    | zero =>
      intro k s hk h
      have : k = S.2 := by omega
      subst this
      exact ⟨s, by rw [f_M_sideOf_4_eq, hb.1, if_neg Int32.lt_irrefl], h⟩
    | succ b ih =>
      intro k s hk h
      have g := (hS.2.1 k (by omega)).1 x x0 x1
      obtain ⟨u, a1, a2⟩ := ih (k + 1) (s ||| (zI 1 <<< (zI (S.1 k x) &&& zI 31))) (by omega) fun y y0 y1 => by
        rw [gb_or, gb_sh g.1 (by omega) y0 y1, Bool.or_eq_true, h y y0 y1, decide_eq_true_eq]
        constructor
        · rintro (⟨j, j1, j2⟩ | e)
          · exact ⟨j, by omega, j2⟩
          · exact ⟨k, by omega, e.symm⟩
        · rintro ⟨j, j1, j2⟩
          by_cases z : j = k
          · subst z; exact Or.inr j2.symm
          · exact Or.inl ⟨j, by omega, j2⟩
      refine ⟨u, ?_, a2⟩
      rw [f_M_sideOf_4_eq, hb.1, if_pos (by rw [zI_le (by omega) (by omega)]; omega), bnd_zI (by omega) (by omega) (by omega), ix_zI (by omega) (by omega), Int.toNat_natCast, nameIn_sp (hb.2 k (by omega)) n6 x0 x1 g.1 (by omega), cI_rI, show (1 : Int32) = zI 1 from zI_lit 1, show (31 : Int32) = zI 31 from zI_lit 31, zI_add]
      exact a1
  rw [f_M_sideOf_eq, zI_0]
  exact main S.2 0 _ (by omega) fun y y0 y1 => by
    rw [gb_0]
    exact ⟨fun q => absurd q Bool.false_ne_true, fun ⟨j, j1, _⟩ => absurd j1 (Nat.not_lt_zero j)⟩
theorem side_lab {τ : Sg} {d : Nat} {n : Int} {W C G : Int → Int} {K : Nat} (n2 : 2 ≤ n) (n6 : n ≤ 6) (hW : onN n W) (hC : onN n C) (h : Cls n W C K) (hL : Lab n (edF W C n) G) (hb : WB n (bst n W C K) τ) {x : Int} (x0 : 0 ≤ x) (x1 : x < n) : ∃ u, f_M_sideOf (d + 2) (zI x) τ = rI u τ ∧ ∀ y, 0 ≤ y → y < 32 → (gb u y = true ↔ y < n ∧ G y = G x) := by
  have ok := bst_ok hW hC K h.1
  obtain ⟨u, a1, a2⟩ := sideOf_sp (d := d) n2 n6 ok hb x0 x1
  refine ⟨u, a1, fun y y0 y1 => ?_⟩
  rw [a2 y y0 y1]
  constructor
  · rintro ⟨j, j1, rfl⟩
    have g := (ok.2.1 j j1).1 x x0 x1
    refine ⟨g.2, ?_⟩
    have := (h.orb hW hC x0 x1 g.1 g.2).mp ⟨j, j1, rfl⟩
    exact ((hL.iff x0 x1 g.1 g.2).mp this).symm
  · rintro ⟨y2, e⟩
    exact (h.orb hW hC x0 x1 y0 y2).mpr ((hL.iff x0 x1 y0 y2).mpr e.symm)
theorem sidesM_sp {τ : Sg} {d : Nat} {n : Int} {W C G : Int → Int} {K : Nat} (n2 : 2 ≤ n) (n6 : n ≤ 6) (e0 : τ.1 102 5 = zI n) (hW : onN n W) (hC : onN n C) (h : Cls n W C K) (hL : Lab n (edF W C n) G) (hb : WB n (bst n W C K) τ) : f_M_sides (d + 3) τ = rI (zI (cnt (fun x => decide (G x = x)) n.toNat)) τ := by
  rw [f_M_sides_eq, zI_0]
  refine zloop n (fun i (a' : Int) => f_M_sides_4 (d + 2) (zI a') (zI i) τ) (fun i a' => 0 ≤ i ∧ a' = cnt (fun x => decide (G x = x)) i.toNat) (fun o => o = rI (zI (cnt (fun x => decide (G x = x)) n.toNat)) τ) ?_ ?_ 0 0 (by omega) ⟨by decide, rfl⟩
  · rintro i a' hi ⟨h0, rfl⟩
    refine Or.inr ⟨cnt (fun x => decide (G x = x)) (i + 1).toNat, ?_, by omega, rfl⟩
    obtain ⟨u, a1, a2⟩ := side_lab (d := d) n2 n6 hW hC h hL hb h0 hi
    obtain ⟨g1, g2, g3, g4⟩ := hL.2 i h0 hi
    have gg : G (G i) = G i := g4 _ g1 (by omega) g3
    have lo := lowestM_sp (σ := τ) (d := d) (s := u) (k := G i) ((a2 _ g1 (by omega)).mpr ⟨by omega, gg⟩) ⟨g1, by omega⟩ fun j j0 j1 => by
      cases q : gb u j with
      | false => rfl
      | true =>
        have := (a2 j j0 (by omega)).mp q
        have := (hL.2 j j0 this.1).2.1
        omega
    show f_M_sides_4 _ _ _ τ = _
    rw [f_M_sides_4_eq, e0, if_pos (by rw [zI_le (by omega) (by omega)]; exact hi), a1, cI_rI, lo, cI_rI]
    rw [show (i + 1).toNat = i.toNat + 1 by omega, cnt_s, show ((i.toNat : Nat) : Int) = i by omega, show (1 : Int32) = zI 1 from zI_lit 1, zI_add, zI_add]
    by_cases q : G i = i
    · rw [if_pos (congrArg zI q), if_pos (decide_eq_true q)]
    · rw [if_neg (by rw [zI_eq (by omega) (by omega)]; exact q), if_neg (by simpa using q), Int.add_zero]
  · rintro a' ⟨-, rfl⟩
    show f_M_sides_4 _ _ _ τ = _
    rw [f_M_sides_4_eq, e0, if_neg Int32.lt_irrefl]
theorem isEvenM_sp {τ : Sg} {d : Nat} {n : Int} {W C G : Int → Int} {K : Nat} (n2 : 2 ≤ n) (n6 : n ≤ 6) (e0 : τ.1 102 5 = zI n) (hW : onN n W) (hC : onN n C) (h : Cls n W C K) (hL : Lab n (edF W C n) G) (hb : WB n (bst n W C K) τ) : ∃ b, f_M_isEven (d + 3) τ = rI (bz b) τ ∧ (b = true ↔ ∀ x, 0 ≤ x → x < n → cnt (fun y => decide (G y = G x)) n.toNat = ((bst n W C K).2 : Int)) := by
  have ok := bst_ok hW hC K h.1
  have fb := fac_bd n.toNat (by omega)
  have sle := ok.le n2 n6
  have main : ∀ (k : Nat) (x : Int), x + k = n → 0 ≤ x → (∀ y, 0 ≤ y → y < x → cnt (fun z => decide (G z = G y)) n.toNat = ((bst n W C K).2 : Int)) → ∃ b, f_M_isEven_2 (d + 2) (zI x) τ = rI (bz b) τ ∧ (b = true ↔ ∀ x, 0 ≤ x → x < n → cnt (fun y => decide (G y = G x)) n.toNat = ((bst n W C K).2 : Int)) := by
    intro k
    induction k with
    | zero =>
      intro x hx x0 h'
      have : x = n := by omega
      subst this
      refine ⟨true, ?_, fun _ => h', fun _ => rfl⟩
      rw [f_M_isEven_2_eq, e0, if_neg Int32.lt_irrefl, show (1 : Int32) = zI 1 from zI_lit 1, rZ_z1]; rfl
    | succ k ih =>
      intro x hx x0 h'
      obtain ⟨u, a1, a2⟩ := side_lab (d := d) n2 n6 hW hC h hL hb x0 (by omega)
      have cb : cnt (gb u) 24 = cnt (fun y => decide (G y = G x)) n.toNat := by
        rw [cnt_congr (p := gb u) (q := fun y => decide (y < n) && decide (G y = G x)) fun y y0 y1 => by
          rw [Bool.eq_iff_iff, a2 y y0 (by omega)]; simp]
        rw [cnt_cut 24 (by omega), show min 24 n.toNat = n.toNat by omega]
      have nn := cnt_nn (fun y => decide (G y = G x)) n.toNat
      by_cases z : cnt (fun y => decide (G y = G x)) n.toNat = ((bst n W C K).2 : Int)
      · obtain ⟨b, b1, b2⟩ := ih (x + 1) (by omega) (by omega) fun y y0 y1 => by
          by_cases q : y = x
          · rw [q]; exact z
          · exact h' y y0 (by omega)
        refine ⟨b, ?_, b2⟩
        rw [f_M_isEven_2_eq, e0, if_pos (by rw [zI_le (by omega) (by omega)]; omega), a1, cI_rI, bits_sp, cI_rI, cb, hb.1, if_pos (congrArg zI z), show (1 : Int32) = zI 1 from zI_lit 1, zI_add]
        exact b1
      · refine ⟨false, ?_, fun q => (by cases q), fun q => absurd (q x x0 (by omega)) z⟩
        rw [f_M_isEven_2_eq, e0, if_pos (by rw [zI_le (by omega) (by omega)]; omega), a1, cI_rI, bits_sp, cI_rI, cb, hb.1, if_neg (by rw [zI_eq (by omega) (by omega)]; exact z), zI_0, rZ_z0]; rfl
  rw [f_M_isEven_eq, zI_0]
  exact main n.toNat 0 (by omega) (by decide) fun y y0 y1 => by omega
/-- no side is greater than the ways -/
theorem orb_le {n : Int} {W C G : Int → Int} {K : Nat} (hW : onN n W) (hC : onN n C) (h : Cls n W C K) (hL : Lab n (edF W C n) G) : ∀ x, 0 ≤ x → x < n → cnt (fun y => decide (G y = G x)) n.toNat ≤ ((bst n W C K).2 : Int) := fun x x0 x1 => cnt_img (f := fun j => (bst n W C K).1 j x) _ _ _ fun y y0 y1 q => (h.orb hW hC x0 x1 y0 (by omega)).mpr ((hL.iff x0 x1 y0 (by omega)).mpr (of_decide_eq_true q).symm)
theorem NmOk.onW {n : Int} {W H C M : Int → Int} (h : NmOk n W H C M) : onN n W ∧ onN n C := ⟨⟨fun x h0 h1 => by have := h.2 x h0 h1; omega, fun x y x0 x1 y0 y1 e => by rw [← (h.2 x x0 x1).1.2.2.2.2.1, ← (h.2 y y0 y1).1.2.2.2.2.1, e]⟩, fun x h0 h1 => by have := h.2 x h0 h1; omega, fun x y x0 x1 y0 y1 e => by rw [← (h.2 x x0 x1).2.2.2.2.2.1, ← (h.2 y y0 y1).2.2.2.2.2.1, e]⟩
def SWy (a k : Nat) : Bool := S74 a k || SCz a k || SWa a k
theorem c_ways {σ : Sg} {r p l : Nat} (h : Inv r p l σ) (w : Int32) : Same (f_N_ways 100 w) (f_M_ways 100 w) σ := by
  obtain ⟨w, rfl, hw⟩ := zI_ex w
  obtain ⟨n1, n2, n3, n4⟩ := h.n
  have hb := h.bits
  have n02 := h.2.2.1.2.1
  have er0 : σ.1 r 0 = zI (rd σ r 0) := rd_k σ r 0
  have em0 : σ.1 102 5 = zI (rd σ r 0) := by rw [← n4]; exact rd_k σ 102 5
  have iM := fun (τ : Sg) => in_sp (σ := τ) (d := 98) (a := w) (b := 0) (c := 2) hw (by decide) (by decide)
  have k0 : (zI (rd σ r 0) = zI 0) = (rd σ r 0 = 0) := zI_eq (by omega) (by decide)
  have k1 : (zI w < zI 0) = (w < 0) := zI_le hw (by decide)
  have k2 : (zI 2 < zI w) = (2 < w) := zI_le (by decide) hw
  have k3 : (zI w = zI 1) = (w = 1) := zI_eq hw (by decide)
  have k4 : (zI w = zI 0) = (w = 0) := zI_eq hw (by decide)
  by_cases q : ¬ (rd σ r 0 ≠ 0 ∧ 0 ≤ w ∧ w ≤ 2)
  · refine ⟨-1, σ, σ, r, p, l, ?_, ?_, h⟩
    · rw [f_N_ways_eq, n1, gfI_of n2, er0, zI_0, show (2 : Int32) = zI 2 from zI_lit 2]
      by_cases a1 : rd σ r 0 = 0
      · rw [if_pos (by rw [k0]; exact a1)]
      rw [if_neg (by rw [k0]; exact a1)]
      by_cases a2 : w < 0
      · rw [if_pos (by rw [k1]; exact a2)]
      rw [if_neg (by rw [k1]; exact a2), if_pos (by rw [k2]; omega)]
    · rw [f_M_ways_eq, zI_0, show (2 : Int32) = zI 2 from zI_lit 2, iM, cI_rI]
      by_cases a1 : 0 ≤ w ∧ w ≤ 2
      · rw [decide_eq_true a1, bz_tt, if_neg (by decide), em0, if_pos (by rw [k0]; omega)]
      · rw [decide_eq_false a1, bz_ff, if_pos (by decide)]
  obtain ⟨q0, qw⟩ := Classical.not_not.mp q
  have n2' : 2 ≤ rd σ r 0 := by omega
  have hru : RuleAt σ r (rd σ r 0) := h.2.2.1.1
  have hrM := h.2.2.1.2.2.2
  obtain ⟨hW, hC⟩ := hru.2.2.onW
  have hI : ∀ τ, Fr SWy σ τ → Inv r p l τ := fun τ F => by
    refine h.scr F ?_ ?_ (by rcases hb.2.2 with rfl | rfl <;> rfl) (by rcases hb.2.2 with rfl | rfl <;> repeat (first | exact trivial | refine ⟨fun _ => rfl, ?_⟩ | refine ⟨rfl, ?_⟩)) ?_ ⟨rfl, rfl⟩
    · repeat (first | exact trivial | refine ⟨fun _ => rfl, ?_⟩ | refine ⟨rfl, ?_⟩)
    · repeat (first | exact trivial | refine ⟨fun _ => rfl, ?_⟩ | refine ⟨rfl, ?_⟩)
    · repeat (first | exact trivial | refine ⟨fun _ => rfl, ?_⟩ | refine ⟨rfl, ?_⟩)
  have u1 : ∀ {τ υ : Sg}, Fr S74 τ υ → Fr SWy τ υ := fun F => F.mono fun a k e => by
    simp only [SWy, Bool.or_eq_false_iff] at e; exact e.1.1
  have u2 : ∀ {τ υ : Sg}, Fr SCz τ υ → Fr SWy τ υ := fun F => F.mono fun a k e => by
    simp only [SWy, Bool.or_eq_false_iff] at e; exact e.1.2
  have u3 : ∀ {τ υ : Sg}, Fr SWa τ υ → Fr SWy τ υ := fun F => F.mono fun a k e => by
    simp only [SWy, Bool.or_eq_false_iff] at e; exact e.2
  have hS : ∀ k, SWy r k = false ∧ SWy (r + 1) k = false ∧ SWy (r + 2) k = false ∧ SWy (r + 3) k = false ∧ SWy (r + 4) k = false := by
    intro k; rcases hb.1 with rfl | rfl <;> exact ⟨rfl, rfl, rfl, rfl, rfl⟩
  -- the reference at any state behind the class
  have refM : ∀ τ, Fr SWy σ τ → ∃ (τ' : Sg) (K : Nat), f_M_laysWays 99 τ = rV τ' ∧ Fr SWy σ τ' ∧ WB (rd σ r 0) (bst (rd σ r 0) (rd σ (r + 1)) (rd σ (r + 3)) K) τ' ∧ Cls (rd σ r 0) (rd σ (r + 1)) (rd σ (r + 3)) K ∧ τ'.1 102 5 = zI (rd σ r 0) := fun τ F => by
    obtain ⟨τ', K, a1, a2, a3, a4, a5⟩ := laysWays_sp (d := 96) (σ := τ) n2' n3.2 ((F.2 _ _ rfl).trans em0) hW hC (fun x x0 x1 => by rw [F.2 _ _ rfl, rd_k, toNat_c x0, (hrM x x0 x1).1]) (fun x x0 x1 => by rw [F.2 _ _ rfl, rd_k, toNat_c x0, (hrM x x0 x1).2])
    exact ⟨τ', K, a1, F.tr (u3 a2), a3, ⟨a4, a5⟩, (a2.2 _ _ rfl).trans ((F.2 _ _ rfl).trans em0)⟩
  have sizeOf : ∀ τ, Fr SWy σ τ → ∀ K, Cls (rd σ r 0) (rd σ (r + 1)) (rd σ (r + 3)) K → ∃ τ', f_Changes_size 99 r (zI 720) τ = rI (zI (((bst (rd σ r 0) (rd σ (r + 1)) (rd σ (r + 3)) K).2 : Nat) : Int)) τ' ∧ Fr SWy σ τ' := fun τ F K hK => by
    obtain ⟨b1, b2, b3, b4, b5⟩ := hru.fr5 F hS
    obtain ⟨τ', k, a1, a2, a3, a4⟩ := size_sp (d := 96) b1 n2' (most := 720) (by decide) (by decide)
    rw [b2, b4] at a1 a3 a4
    refine ⟨τ', ?_, F.tr (u2 a2)⟩
    have un := hK.uniq a3
    have okK := (bst_ok hW hC K hK.1).le n2' n3.2
    have fb := fac_bd (rd σ r 0).toNat (by omega)
    have e : (bst (rd σ r 0) (rd σ (r + 1)) (rd σ (r + 3)) k).2 = (bst (rd σ r 0) (rd σ (r + 1)) (rd σ (r + 3)) K).2 := by
      rcases a4 with a4 | a4
      · rw [un.2 a4]
      · obtain ⟨b, rfl⟩ : ∃ b, K = k + b := ⟨K - k, by have := un.1; omega⟩
        have := (bst_le (n := rd σ r 0) (W := rd σ (r + 1)) (C := rd σ (r + 3)) (k := k) b).1
        omega
    rw [a1, e]
  have sidesOf : ∀ τ, Fr SWy σ τ → ∃ τ' G, f_Changes_sides 99 r τ = rI (zI (cnt (fun x => decide (G x = x)) (rd σ r 0).toNat)) τ' ∧ Fr SWy σ τ' ∧ Lab (rd σ r 0) (edF (rd σ (r + 1)) (rd σ (r + 3)) (rd σ r 0)) G := fun τ F => by
    obtain ⟨b1, b2, b3, b4, b5⟩ := hru.fr5 F hS
    obtain ⟨τ', G, a1, a2, a3⟩ := sides_sp (d := 97) b1 n3.1
    rw [b2, b4] at a3
    exact ⟨τ', G, a1, F.tr (u1 a2), a3⟩
  have goN : ∀ R, (if w = 1 then cI (f_Changes_sides 99 r σ) fun v3 σ2 => rI v3 σ2 else cI (f_Changes_size 99 r (zI 720) σ) fun v5 σ4 => if w = 0 then rI v5 σ4 else cI (f_Changes_sides 99 (σ4.2.2 4 1) σ4) fun v7 σ6 => gfI 6 (σ6.2.2 4 1) 0 σ6 fun v8 => if v7 * v5 = v8 then rI (zI 1) σ6 else rI (zI 0) σ6) = R → f_N_ways 100 (zI w) σ = R := fun R hR => by
    rw [← hR, f_N_ways_eq, n1, gfI_of n2, er0, zI_0, show (2 : Int32) = zI 2 from zI_lit 2, show (1 : Int32) = zI 1 from zI_lit 1, show (720 : Int32) = zI 720 from zI_lit 720, if_neg (by rw [k0]; exact q0), if_neg (by rw [k1]; omega), if_neg (by rw [k2]; omega)]
    simp only [k3, k4]
  have goM : ∀ τ, τ.1 102 5 = zI (rd σ r 0) → ∀ R, (cV (f_M_laysWays 99 τ) fun σ3 => if w = 0 then rI (σ3.1 102 46) σ3 else if w = 1 then cI (f_M_sides 99 σ3) fun v5 σ4 => rI v5 σ4 else cI (f_M_isEven 99 σ3) fun v7 σ6 => if v7 = zI 0 then rI (zI 0) σ6 else rI (zI 1) σ6) = R → f_M_ways 100 (zI w) τ = R := fun τ e R hR => by
    rw [← hR, f_M_ways_eq, zI_0, show (2 : Int32) = zI 2 from zI_lit 2, show (1 : Int32) = zI 1 from zI_lit 1, iM, cI_rI, decide_eq_true qw, bz_tt, if_neg (by decide), e, if_neg (by rw [k0]; exact q0)]
    simp only [k3, k4]
  by_cases w1 : w = 1
  · obtain ⟨σ1, G, a1, a2, a3⟩ := sidesOf σ (Fr.rf _ _)
    obtain ⟨σ2, K, b1, b2, b3, b4, b5⟩ := refM σ1 a2
    refine ⟨_, σ1, σ2, r, p, l, goN _ (by rw [if_pos w1, a1, cI_rI]), goM σ1 ((a2.2 _ _ rfl).trans em0) _ ?_, hI σ2 b2⟩
    rw [b1, cV_rV, if_neg (by omega), if_pos w1, sidesM_sp n2' n3.2 b5 hW hC b4 a3 b3, cI_rI]
  · obtain ⟨-, K0, -, -, -, hK0, -⟩ := refM σ (Fr.rf _ _)
    obtain ⟨σ1, a1, a2⟩ := sizeOf σ (Fr.rf _ _) K0 hK0
    have uq : ∀ K, Cls (rd σ r 0) (rd σ (r + 1)) (rd σ (r + 3)) K → K = K0 := fun K hK => (hK0.uniq hK.1).2 hK.2
    by_cases w0 : w = 0
    · obtain ⟨σ2, K, b1, b2, b3, b4, b5⟩ := refM σ1 a2
      obtain rfl := uq K b4
      refine ⟨_, σ1, σ2, r, p, l, goN _ (by rw [if_neg w1, a1, cI_rI, if_pos w0]), goM σ1 ((a2.2 _ _ rfl).trans em0) _ ?_, hI σ2 b2⟩
      rw [b1, cV_rV, if_pos w0, b3.1]
    · obtain ⟨σ2, G, c1, c2, c3⟩ := sidesOf σ1 a2
      obtain ⟨σ3, K, b1, b2, b3, b4, b5⟩ := refM σ2 c2
      obtain rfl := uq K b4
      obtain ⟨b, d1, d2⟩ := isEvenM_sp (d := 96) n2' n3.2 b5 hW hC b4 c3 b3
      rw [even_iff n3.1 c3 (orb_le hW hC b4 c3)] at d2
      have n11 : σ1.2.2 4 1 = r := by rw [a2.1]; exact n1
      have n12 : σ2.2.2 4 1 = r := by rw [c2.1]; exact n1
      have er2 : σ2.1 r 0 = zI (rd σ r 0) := (c2.2 _ _ (hS 0).1).trans er0
      have okK := (bst_ok hW hC K b4.1).le n2' n3.2
      have fb := fac_bd (rd σ r 0).toNat (by omega)
      have cb := cnt_nn (fun x => decide (G x = x)) (rd σ r 0).toNat
      have mb : 0 ≤ cnt (fun x => decide (G x = x)) (rd σ r 0).toNat * (((bst (rd σ r 0) (rd σ (r + 1)) (rd σ (r + 3)) K).2 : Nat) : Int) ∧ cnt (fun x => decide (G x = x)) (rd σ r 0).toNat * (((bst (rd σ r 0) (rd σ (r + 1)) (rd σ (r + 3)) K).2 : Nat) : Int) ≤ 6 * 720 := ⟨Int.mul_nonneg cb.1 (by omega), Int.mul_le_mul (by omega) (by omega) (by omega) (by decide)⟩
      refine ⟨bz b, σ2, σ3, r, p, l, goN _ ?_, goM σ2 ((c2.2 _ _ rfl).trans em0) _ ?_, hI σ3 b2⟩
      · rw [if_neg w1, a1, cI_rI, if_neg w0, n11, c1, cI_rI, n12, gfI_of n2, er2, zI_mul]
        by_cases z : cnt (fun x => decide (G x = x)) (rd σ r 0).toNat * (((bst (rd σ r 0) (rd σ (r + 1)) (rd σ (r + 3)) K).2 : Nat) : Int) = rd σ r 0
        · rw [if_pos (congrArg zI z), d2.mpr z]; rfl
        · rw [if_neg (by rw [zI_eq (by omega) (by omega)]; exact z)]
          cases b with
          | true => exact absurd (d2.mp rfl) z
          | false => rfl
      · rw [b1, cV_rV, if_neg w0, if_neg w1, d1, cI_rI]
        cases b with
        | true => rw [bz_tt, if_neg (by decide)]
        | false => rw [bz_ff, if_pos rfl]
