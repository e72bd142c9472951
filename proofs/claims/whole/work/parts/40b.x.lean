/-- only longs have changed -/
def OJ (σ0 σ : Sg) : Prop := σ.1 = σ0.1 ∧ σ.2.2 = σ0.2.2
theorem mw53 {σ0 : Sg} {d : Nat} {x1 x4 x5 : Int32} {x7 x8 : Value} {a s : Int} (ha : 0 ≤ a ∧ a < 6) (hs : 0 ≤ s ∧ s ≤ 1) : ∃ σ', f_M_words_53 d x1 (zI a) (zI s) x4 x5 (zI 0) x7 x8 σ0 = f_M_words_91 d x1 (.int (zI a)) (.int (zI s)) x4 x5 (zI 0) x7 x8 σ' ∧ OJ σ0 σ' ∧ rowJ σ' 138 (fun j => if j = 2 * a + s then 1 else 0) := by
  refine zloop 12 (fun i (τ : Sg) => f_M_words_53 d x1 (zI a) (zI s) x4 x5 (zI i) x7 x8 τ) (fun i τ => 0 ≤ i ∧ OJ σ0 τ ∧ ∀ j : Int, 0 ≤ j → j < i → τ.2.1 138 j.toNat = if j = 2 * a + s then 1 else 0) (fun o => ∃ σ', o = f_M_words_91 d x1 (.int (zI a)) (.int (zI s)) x4 x5 (zI 0) x7 x8 σ' ∧ OJ σ0 σ' ∧ rowJ σ' 138 (fun j => if j = 2 * a + s then 1 else 0)) ?_ ?_ 0 σ0 (by decide) ⟨by decide, ⟨rfl, rfl⟩, fun j j0 j1 => by omega⟩
  · rintro i τ hi ⟨i0, ho, h⟩
    have lt : zI i < 12 := by rw [show (12 : Int32) = zI 12 from zI_lit 12, zI_le (by omega) (by decide)]; exact hi
    have e2 : (2 : Int32) * zI a + zI s = zI (2 * a + s) := by rw [show (2 : Int32) = zI 2 from zI_lit 2, zI_mul, zI_add]
    have i1 : zI i + 1 = zI (i + 1) := by rw [zI_lit, zI_add]
    refine Or.inr ⟨sJ τ 138 i.toNat (if i = 2 * a + s then 1 else 0), ?_, by omega, ho, fun j j0 j1 => ?_⟩
    · show f_M_words_53 d x1 (zI a) (zI s) x4 x5 (zI i) x7 x8 τ = _
      rw [f_M_words_53_eq, if_pos lt, e2, i1, bnd_zI i0 (by omega) (by omega), bnd_zI i0 (by omega) (by omega), ix_zI i0 (by omega)]
      by_cases q : i = 2 * a + s
      · rw [if_pos (congrArg zI q), if_pos q]; rfl
      · rw [if_neg (by rw [zI_eq (by omega) (by omega)]; exact q), if_neg q]; rfl
    · rw [sJ_at]
      by_cases q : j = i
      · subst q; rw [if_pos ⟨rfl, rfl⟩]
      · rw [if_neg (by omega)]; exact h j j0 (by omega)
  · rintro τ ⟨i0, ho, h⟩
    refine ⟨τ, ?_, ho, h⟩
    show f_M_words_53 d x1 (zI a) (zI s) x4 x5 (zI 12) x7 x8 τ = _
    rw [f_M_words_53_eq, show (12 : Int32) = zI 12 from zI_lit 12, if_neg Int32.lt_irrefl, zI_0]
theorem mw100 {σ0 : Sg} {d : Nat} {x1 x4 x5 x6 : Int32} {x2 x3 x8 : Value} {u : Int → Int64} (hu : rowJ σ0 138 u) : ∃ σ', f_M_words_100 d x1 x2 x3 x4 x5 x6 (zI 0) x8 σ0 = f_M_words_124 d x1 x2 x3 x4 x5 x6 (zI 0) x8 σ' ∧ OJ σ0 σ' ∧ rowJ σ' 138 u ∧ rowJ σ' 139 (fun _ => 0) := by
  refine zloop 12 (fun i (τ : Sg) => f_M_words_100 d x1 x2 x3 x4 x5 x6 (zI i) x8 τ) (fun i τ => 0 ≤ i ∧ OJ σ0 τ ∧ rowJ τ 138 u ∧ ∀ j : Int, 0 ≤ j → j < i → τ.2.1 139 j.toNat = 0) (fun o => ∃ σ', o = f_M_words_124 d x1 x2 x3 x4 x5 x6 (zI 0) x8 σ' ∧ OJ σ0 σ' ∧ rowJ σ' 138 u ∧ rowJ σ' 139 (fun _ => 0)) ?_ ?_ 0 σ0 (by decide) ⟨by decide, ⟨rfl, rfl⟩, hu, fun j j0 j1 => by omega⟩
  · rintro i τ hi ⟨i0, ho, hu, h⟩
    have lt : zI i < 12 := by rw [show (12 : Int32) = zI 12 from zI_lit 12, zI_le (by omega) (by decide)]; exact hi
    have i1 : zI i + 1 = zI (i + 1) := by rw [zI_lit, zI_add]
    refine Or.inr ⟨sJ τ 139 i.toNat 0, ?_, by omega, ho, hu.ne (by decide) _ _, fun j j0 j1 => ?_⟩
    · show f_M_words_100 d x1 x2 x3 x4 x5 x6 (zI i) x8 τ = _
      rw [f_M_words_100_eq, if_pos lt, i1, bnd_zI i0 (by omega) (by omega), ix_zI i0 (by omega)]; rfl
    · rw [sJ_at]
      by_cases q : j = i
      · subst q; rw [if_pos ⟨rfl, rfl⟩]
      · rw [if_neg (by omega)]; exact h j j0 (by omega)
  · rintro τ ⟨i0, ho, hu, h⟩
    refine ⟨τ, ?_, ho, hu, h⟩
    show f_M_words_100 d x1 x2 x3 x4 x5 x6 (zI 12) x8 τ = _
    rw [f_M_words_100_eq, show (12 : Int32) = zI 12 from zI_lit 12, if_neg Int32.lt_irrefl, zI_0]
theorem mw194 {σ0 : Sg} {d : Nat} {x1 x4 x5 x6 : Int32} {x2 x3 x8 : Value} {acc : Int → Int64} (ha : rowJ σ0 139 acc) : ∃ σ', f_M_words_194 d x1 x2 x3 x4 x5 x6 (zI 0) x8 σ0 = f_M_words_91 d x1 x2 x3 x4 x5 (x6 + 1) (.int (zI 12)) x8 σ' ∧ OJ σ0 σ' ∧ rowJ σ' 138 acc := by
  refine zloop 12 (fun i (τ : Sg) => f_M_words_194 d x1 x2 x3 x4 x5 x6 (zI i) x8 τ) (fun i τ => 0 ≤ i ∧ OJ σ0 τ ∧ rowJ τ 139 acc ∧ ∀ j : Int, 0 ≤ j → j < i → τ.2.1 138 j.toNat = acc j) (fun o => ∃ σ', o = f_M_words_91 d x1 x2 x3 x4 x5 (x6 + 1) (.int (zI 12)) x8 σ' ∧ OJ σ0 σ' ∧ rowJ σ' 138 acc) ?_ ?_ 0 σ0 (by decide) ⟨by decide, ⟨rfl, rfl⟩, ha, fun j j0 j1 => by omega⟩
  · rintro i τ hi ⟨i0, ho, ha, h⟩
    have lt : zI i < 12 := by rw [show (12 : Int32) = zI 12 from zI_lit 12, zI_le (by omega) (by decide)]; exact hi
    have i1 : zI i + 1 = zI (i + 1) := by rw [zI_lit, zI_add]
    refine Or.inr ⟨sJ τ 138 i.toNat (acc i), ?_, by omega, ho, ha.ne (by decide) _ _, fun j j0 j1 => ?_⟩
    · show f_M_words_194 d x1 x2 x3 x4 x5 x6 (zI i) x8 τ = _
      rw [f_M_words_194_eq, if_pos lt, i1, bnd_zI i0 (by omega) (by omega), bnd_zI i0 (by omega) (by omega), ix_zI i0 (by omega), ha i i0 hi]
    · rw [sJ_at]
      by_cases q : j = i
      · subst q; rw [if_pos ⟨rfl, rfl⟩]
      · rw [if_neg (by omega)]; exact h j j0 (by omega)
  · rintro τ ⟨i0, ho, ha, h⟩
    refine ⟨τ, ?_, ho, h⟩
    show f_M_words_194 d x1 x2 x3 x4 x5 x6 (zI 12) x8 τ = _
    rw [f_M_words_194_eq, show (12 : Int32) = zI 12 from zI_lit 12, if_neg Int32.lt_irrefl]
theorem mw124 {σ0 : Sg} {n : Int} {W H C M : Int → Int} (hr : MR4 σ0 n W H C M) (hN : NmOk n W H C M) {d : Nat} {x1 x4 x5 x6 : Int32} {x2 x3 : Value} {u : Int → Int64} : ∀ (N : Nat) (c : Int) (acc : Int → Int64) (x8 : Value) (σ : Sg), 0 ≤ c → c + N = 16 * n → OJ σ0 σ → rowJ σ 138 u → rowJ σ 139 acc → ∃ σ' x8', f_M_words_124 (d + 3) x1 x2 x3 x4 x5 x6 (zI c) x8 σ = f_M_words_194 (d + 3) x1 x2 x3 x4 x5 x6 (zI 0) x8' σ' ∧ OJ σ0 σ' ∧ rowJ σ' 139 (woAll W H C M u N c acc)
  | 0, c, acc, x8, σ, c0, hc, ho, hu, ha => by
    have e5 : σ.1 102 5 = zI n := by rw [ho.1]; exact (rd_k σ0 102 5).trans (congrArg zI hr.1.1)
    have n6 : n ≤ 6 := hr.1.2.2.1
    refine ⟨σ, x8, ?_, ho, ha⟩
    rw [f_M_words_124_eq, e5, show (2 : Int32) = zI 2 from zI_lit 2, show (8 : Int32) = zI 8 from zI_lit 8, zI_mul, zI_mul, if_neg (by rw [zI_le (by omega) (by omega)]; omega), zI_0]
  | N + 1, c, acc, x8, σ, c0, hc, ho, hu, ha => by
    have n6 : n ≤ 6 := hr.1.2.2.1
    have e5 : σ.1 102 5 = zI n := by rw [ho.1]; exact (rd_k σ0 102 5).trans (congrArg zI hr.1.1)
    have hr' : MR4 σ n W H C M := by
      have := rd1 ho.1
      unfold MR4 MR; rw [this]; exact hr
    have es := stateBy_sp hr' (d := d) (k := c % 8) (v := c / 8) (by omega) (by omega) (by omega) (by omega)
    have d8 : ∀ K : Int32 → Rs, dvI (zI c) 8 K = K (zI (c / 8)) := fun K => by rw [show (8 : Int32) = zI 8 from zI_lit 8]; exact dvI_nn c0 (by omega) (by decide) (by decide)
    have r8 : ∀ K : Int32 → Rs, rmI (zI c) 8 K = K (zI (c % 8)) := fun K => by rw [show (8 : Int32) = zI 8 from zI_lit 8]; exact rmI_nn c0 (by omega) (by decide) (by decide)
    have lt : zI c < 2 * zI n * 8 := by rw [show (2 : Int32) = zI 2 from zI_lit 2, show (8 : Int32) = zI 8 from zI_lit 8, zI_mul, zI_mul, zI_le (by omega) (by omega)]; omega
    have i1 : zI c + 1 = zI (c + 1) := by rw [zI_lit, zI_add]
    have bd := nxt_bd hN (k := c % 8) (v := c / 8) (by omega) (by omega) (by omega) (by omega)
    unfold woAll woAdd
    rw [f_M_words_124_eq, e5, if_pos lt, d8, r8, es, cI_rI, i1]
    cases hcan : canB (c % 8) (c / 8 % 2) with
    | false =>
      rw [if_neg (show ¬ (false = true) from Bool.false_ne_true), if_neg (show ¬ (false = true) from Bool.false_ne_true), if_pos (by decide)]
      exact mw124 hr hN (d := d) N (c + 1) acc _ σ (by omega) (by omega) ho hu ha
    | true =>
      rw [if_pos rfl, if_pos rfl]
      generalize nxt W H C M (c % 8) (c / 8) = t at bd
      rw [if_neg (by rw [show (-1 : Int32) = zI (-1) from rfl, zI_eq (by omega) (by decide)]; omega), bnd_zI bd.1 (by omega) (by omega), d8, bnd_zI (by omega) (by omega) (by omega), bnd_zI bd.1 (by omega) (by omega), ix_zI bd.1 (by omega), ix_zI (by omega) (by omega), ha t bd.1 (by omega), hu (c / 8) (by omega) (by omega)]
      exact mw124 hr hN (d := d) N (c + 1) _ _ (sJ σ 139 t.toNat (acc t + u (c / 8))) (by omega) (by omega) ho (hu.ne (by decide) _ _) (ha.put bd.1 _)
theorem mw91 {σ0 : Sg} {n : Int} {W H C M : Int → Int} (hr : MR4 σ0 n W H C M) (hN : NmOk n W H C M) {d : Nat} {x2 x3 : Value} {m a s : Int} (hm : m ≤ 20) (ha : 0 ≤ a ∧ a < n) (hs : 0 ≤ s ∧ s ≤ 1) : ∀ (k : Nat) (i : Int) (u : Int → Int64) (x7 x8 : Value) (σ : Sg), 0 ≤ i → i + k = m → OJ σ0 σ → rowJ σ 138 u → ∃ σ', f_M_words_91 (d + 3) (zI m) x2 x3 (zI a) (zI s) (zI i) x7 x8 σ = rJ (woIt W H C M n.toNat k u (2 * a + s)) σ' ∧ OJ σ0 σ'
  | 0, i, u, x7, x8, σ, i0, hi, ho, hu => by
    have n6 : n ≤ 6 := hr.1.2.2.1
    have : i = m := by omega
    subst this
    refine ⟨σ, ?_, ho⟩
    have e2 : (2 : Int32) * zI a + zI s = zI (2 * a + s) := by rw [show (2 : Int32) = zI 2 from zI_lit 2, zI_mul, zI_add]
    rw [f_M_words_91_eq, if_neg Int32.lt_irrefl, e2, bnd_zI (by omega) (by omega) (by omega), ix_zI (by omega) (by omega), hu _ (by omega) (by omega)]
    rfl
  | k + 1, i, u, x7, x8, σ, i0, hi, ho, hu => by
    have n6 : n ≤ 6 := hr.1.2.2.1
    obtain ⟨σ1, e1, o1, u1, z1⟩ := mw100 (d := d + 3) (x1 := zI m) (x4 := zI a) (x5 := zI s) (x6 := zI i) (x2 := x2) (x3 := x3) (x8 := x8) hu
    obtain ⟨σ2, x8', e2, o2, a2⟩ := mw124 hr hN (d := d) (x1 := zI m) (x4 := zI a) (x5 := zI s) (x6 := zI i) (x2 := x2) (x3 := x3) (16 * n.toNat) 0 _ x8 σ1 (by decide) (by omega) ⟨o1.1.trans ho.1, o1.2.trans ho.2⟩ u1 z1
    obtain ⟨σ3, e3, o3, a3⟩ := mw194 (d := d + 3) (x1 := zI m) (x4 := zI a) (x5 := zI s) (x6 := zI i) (x2 := x2) (x3 := x3) (x8 := x8') a2
    obtain ⟨σ4, e4, o4⟩ := mw91 hr hN (d := d) (x2 := x2) (x3 := x3) hm ha hs k (i + 1) _ (.int (zI 12)) x8' σ3 (by omega) (by omega) ⟨o3.1.trans o2.1, o3.2.trans o2.2⟩ a3
    refine ⟨σ4, ?_, o4⟩
    have i1 : zI i + 1 = zI (i + 1) := by rw [zI_lit, zI_add]
    rw [f_M_words_91_eq, if_pos (by rw [zI_le (by omega) (by omega)]; omega), zI_0, e1, e2, e3, i1, e4]
    rfl
theorem c_words {σ : Sg} {r p l : Nat} (h : Inv r p l σ) (m a s b t : Int32) : SameJ (f_N_words 100 m a s b t) (f_M_words 100 m a s b t) σ := by
  obtain ⟨m, rfl, hm⟩ := zI_ex m
  obtain ⟨a, rfl, ha⟩ := zI_ex a
  obtain ⟨s, rfl, hs⟩ := zI_ex s
  obtain ⟨b, rfl, hb⟩ := zI_ex b
  obtain ⟨t, rfl, ht⟩ := zI_ex t
  obtain ⟨n1, n2, n3, n4⟩ := h.n
  have iA := isName_sp n1 n2 rfl n3 (d := 98) ha
  have iB := isName_sp n1 n2 rfl n3 (d := 98) hb
  have iS := isSort_sp (σ := σ) (d := 98) hs
  have iT := isSort_sp (σ := σ) (d := 98) ht
  have jM : ∀ τ, f_M_in 99 (zI m) 1 20 τ = rI (bz (decide (1 ≤ m ∧ m ≤ 20))) τ := fun τ => by
    rw [show (1 : Int32) = zI 1 from zI_lit 1, show (20 : Int32) = zI 20 from zI_lit 20]; exact in_sp hm (by decide) (by decide)
  have jS : ∀ τ, f_M_in 99 (zI s) 0 1 τ = rI (bz (decide (0 ≤ s ∧ s ≤ 1))) τ := fun τ => by
    rw [show (1 : Int32) = zI 1 from zI_lit 1, zI_0]; exact in_sp hs (by decide) (by decide)
  have jT : ∀ τ, f_M_in 99 (zI t) 0 1 τ = rI (bz (decide (0 ≤ t ∧ t ≤ 1))) τ := fun τ => by
    rw [show (1 : Int32) = zI 1 from zI_lit 1, zI_0]; exact in_sp ht (by decide) (by decide)
  have c1 : (zI m < 1) = (m < 1) := by rw [show (1 : Int32) = zI 1 from zI_lit 1]; exact zI_le hm (by decide)
  have c20 : ((20 : Int32) < zI m) = (20 < m) := by rw [show (20 : Int32) = zI 20 from zI_lit 20]; exact zI_le (by decide) hm
  by_cases q : (1 ≤ m ∧ m ≤ 20) ∧ (0 ≤ a ∧ a < rd σ r 0) ∧ (0 ≤ s ∧ s ≤ 1) ∧ (0 ≤ b ∧ b < rd σ r 0) ∧ 0 ≤ t ∧ t ≤ 1
  · obtain ⟨qm, qa, qs, qb, qt⟩ := q
    have hR := h.1.2.2.2.2.2.2.2.2.2
    have hr := h.2.2.1.1
    have main : ∀ tw nx : Nat, (tw = 67 ∧ nx = 68 ∨ tw = 68 ∧ nx = 67) → σ.2.2 61 7 = tw → σ.2.2 61 8 = nx → SameJ (f_N_words 100 (zI m) (zI a) (zI s) (zI b) (zI t)) (f_M_words 100 (zI m) (zI a) (zI s) (zI b) (zI t)) σ := by
      intro tw nx h2 r7 r8
      obtain ⟨σ1, tw', nx', e1, w1, h2'⟩ := howMany_sp hr (by omega) (d := 95) h2 r7 r8 (s := 2 * a + s) (t := 2 * b + t) (m := m) (by omega) (by omega) (by omega) (by omega) (by omega) qm.2
      have a1 : (2 : Int32) * zI a + zI s = zI (2 * a + s) := by rw [show (2 : Int32) = zI 2 from zI_lit 2, zI_mul, zI_add]
      have b1 : (2 : Int32) * zI b + zI t = zI (2 * b + t) := by rw [show (2 : Int32) = zI 2 from zI_lit 2, zI_mul, zI_add]
      have eN : f_N_words 100 (zI m) (zI a) (zI s) (zI b) (zI t) σ = rJ (woIt (rd σ (r + 1)) (rd σ (r + 2)) (rd σ (r + 3)) (rd σ (r + 4)) (rd σ r 0).toNat m.toNat (fun j => if j = 2 * a + s then 1 else 0) (2 * b + t)) σ1 := by
        rw [f_N_words_eq, iA, cI_rI, decide_eq_true qa, bz_tt, if_neg (by decide), iS, cI_rI, decide_eq_true qs, bz_tt, if_neg (by decide), iB, cI_rI, decide_eq_true qb, bz_tt, if_neg (by decide), iT, cI_rI, decide_eq_true qt, bz_tt, if_neg (by decide), if_neg (by decide), if_neg (by rw [c1]; omega), if_neg (by rw [c20]; omega), a1, b1, n1, e1, cJ_rJ]
      have rr := rd1 w1.1
      have mr : MR4 σ1 (rd σ r 0) (rd σ (r + 1)) (rd σ (r + 2)) (rd σ (r + 3)) (rd σ (r + 4)) := by
        have := h.2.2.1.mr4
        unfold MR4 MR at this ⊢; rw [rr]; exact this
      have jA := isNameM_sp (σ := σ1) (n := rd σ r 0) (by rw [rr]; exact n4) n3 (d := 97) ha
      have jB := isNameM_sp (σ := σ1) (n := rd σ r 0) (by rw [rr]; exact n4) n3 (d := 97) hb
      obtain ⟨σ2, e2, o2, u2⟩ := mw53 (σ0 := σ1) (d := 99) (x1 := zI m) (x4 := zI b) (x5 := zI t) (x7 := .null) (x8 := .null) (a := a) (s := s) (by omega) qs
      obtain ⟨σ3, e3, o3⟩ := mw91 mr hr.nm (d := 96) (x2 := .int (zI a)) (x3 := .int (zI s)) (m := m) (a := b) (s := t) qm.2 qb qt m.toNat 0 _ .null .null σ2 (by decide) (by omega) o2 u2
      refine ⟨_, σ1, σ3, r, p, l, eN, ?_, ?_⟩
      · rw [f_M_words_eq, jM, cI_rI, decide_eq_true qm, bz_tt, if_neg (by decide), jA, cI_rI, decide_eq_true qa, bz_tt, if_neg (by decide), jB, cI_rI, decide_eq_true qb, bz_tt, if_neg (by decide), jS, cI_rI, decide_eq_true qs, bz_tt, if_neg (by decide), jT, cI_rI, decide_eq_true qt, bz_tt, if_neg (by decide), zI_0, e2]
        exact e3
      · -- the ints are as they were
        have k1 : σ3.1 = σ.1 := o3.1.trans w1.1
        have F : Fr (fun _ _ => false) σ (σ3.1, σ3.2.1, σ.2.2) := ⟨rfl, fun a k _ => by show σ3.1 a k = _; rw [k1]⟩
        have hI := h.fr F fun _ _ _ => rfl
        obtain ⟨-, i2, i3, i4, i5, i6, i7, i8⟩ := hI
        refine ⟨?_, i2, i3, i4, i5, i6, i7, i8⟩
        obtain ⟨g1, g2, g3, g4, g5, g6, g7, g8, g9, -⟩ := h.1
        have k2 : ∀ a k, ¬(a = 61 ∧ (k = 7 ∨ k = 8)) → σ3.2.2 a k = σ.2.2 a k := fun a k z => by rw [o3.2]; exact w1.2.1 a k z
        refine ⟨g1, g2, g3, ?_, ?_, ?_, ?_, ?_, ?_, ?_⟩
        · rw [k2 _ _ (by decide)]; exact g4
        · rw [k2 _ _ (by decide)]; exact g5
        · rw [k2 _ _ (by decide)]; exact g6
        · rw [k2 _ _ (by decide)]; exact g7
        · rw [k2 _ _ (by decide)]; exact g8
        · rw [k2 _ _ (by decide)]; exact g9
        · rw [o3.2, w1.2.2.1, w1.2.2.2]; exact h2'
    rcases hR with ⟨r7, r8⟩ | ⟨r7, r8⟩
    · exact main 67 68 (Or.inl ⟨rfl, rfl⟩) r7 r8
    · exact main 68 67 (Or.inr ⟨rfl, rfl⟩) r7 r8
  · have jA := isNameM_sp n4 n3 (d := 97) ha
    have jB := isNameM_sp n4 n3 (d := 97) hb
    refine ⟨((-1) : Int32).toInt64, σ, σ, r, p, l, ?_, ?_, h⟩
    · rw [f_N_words_eq, iA, cI_rI]
      by_cases qa : 0 ≤ a ∧ a < rd σ r 0
      · rw [decide_eq_true qa, bz_tt, if_neg (by decide), iS, cI_rI]
        by_cases qs : 0 ≤ s ∧ s ≤ 1
        · rw [decide_eq_true qs, bz_tt, if_neg (by decide), iB, cI_rI]
          by_cases qb : 0 ≤ b ∧ b < rd σ r 0
          · rw [decide_eq_true qb, bz_tt, if_neg (by decide), iT, cI_rI]
            by_cases qt : 0 ≤ t ∧ t ≤ 1
            · rw [decide_eq_true qt, bz_tt, if_neg (by decide), if_neg (by decide)]
              by_cases q1 : m < 1
              · rw [if_pos (c1.mpr q1)]
              · rw [if_neg (fun z => q1 (c1.mp z)), if_pos (c20.mpr (by omega))]
            · rw [decide_eq_false qt, bz_ff, if_pos (by decide), if_pos (by decide)]
          · rw [decide_eq_false qb, bz_ff, if_pos (by decide), if_pos (by decide)]
        · rw [decide_eq_false qs, bz_ff, if_pos (by decide), if_pos (by decide)]
      · rw [decide_eq_false qa, bz_ff, if_pos (by decide), if_pos (by decide)]
    · rw [f_M_words_eq, jM, cI_rI]
      by_cases qm : 1 ≤ m ∧ m ≤ 20
      · rw [decide_eq_true qm, bz_tt, if_neg (by decide), jA, cI_rI]
        by_cases qa : 0 ≤ a ∧ a < rd σ r 0
        · rw [decide_eq_true qa, bz_tt, if_neg (by decide), jB, cI_rI]
          by_cases qb : 0 ≤ b ∧ b < rd σ r 0
          · rw [decide_eq_true qb, bz_tt, if_neg (by decide), jS, cI_rI]
            by_cases qs : 0 ≤ s ∧ s ≤ 1
            · rw [decide_eq_true qs, bz_tt, if_neg (by decide), jT, cI_rI, decide_eq_false (by omega), bz_ff, if_pos (by decide)]
            · rw [decide_eq_false qs, bz_ff, if_pos (by decide)]
          · rw [decide_eq_false qb, bz_ff, if_pos (by decide)]
        · rw [decide_eq_false qa, bz_ff, if_pos (by decide)]
      · rw [decide_eq_false qm, bz_ff, if_pos (by decide)]
