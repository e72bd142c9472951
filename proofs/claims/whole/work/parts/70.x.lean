/-! alike -/
def SNa (a b k : Nat) : Bool := SWr a b k || b == 5
theorem wordTwo {σ τ : Sg} {r p l : Nat} (h : Inv r p l σ) {f n s : Int} (f0 : 0 ≤ f) (n0 : 1 ≤ n) (fn : f + n ≤ rd σ 5 1) (sx : s = 0 ∨ s = 1) {a : Nat} (ha : isW a) (e6 : ∀ k, τ.1 6 k = σ.1 6 k) (d d2 d3 : Nat) : ∃ σ1 σ2, f_Tape_take (d + 1) (zI f) (zI n) τ = rV σ1 ∧ σ1.2.2 = τ.2.2 ∧ f_Word_read (d2 + 4) a (zI s) σ1 = rI (zI (wRes (fun j => rd σ 6 (f + j)) n s)) σ2 ∧ Fr (SNa a) τ σ2 ∧ rd σ2 5 1 = 0 ∧ (-10000 < wRes (fun j => rd σ 6 (f + j)) n s ∧ wRes (fun j => rd σ 6 (f + j)) n s ≤ 0) ∧ ∀ υ : Sg, (∀ k, υ.1 108 k = σ.1 108 k) → ∃ σ3, Fr SMw υ σ3 ∧ f_M_readsWord (d3 + 4) (zI f) (zI n) (zI s) υ = rI (zI (wRes (fun j => rd σ 6 (f + j)) n s)) σ3 ∧ (wRes (fun j => rd σ 6 (f + j)) n s = 0 → ∃ W, CWo a W σ2 ∧ WOk W ∧ 1 ≤ W.size ∧ MWo W σ3) ∧ ∃ z : Int, σ3.1 102 38 = zI z ∧ 0 ≤ z ∧ z ≤ 24 := by
  obtain ⟨t0, t1, t2, t3⟩ := h.2.1
  have tb : ∀ j, 0 ≤ j → j < n → 0 ≤ rd σ 6 (f + j) ∧ rd σ 6 (f + j) < 256 := fun j j0 j1 => by have := t3 (f + j) (by omega) (by omega); omega
  have et := take_sp (σ := τ) (d := d) (f := f) (n := n)
  have F1 : Fr (fun x _ => x == 5) τ (sI (sI (sI (sI τ 5 2 (zI f)) 5 3 (zI n)) 5 4 (zI 0)) 5 1 (zI 0)) := ((((Fr.rf _ τ).sI _ rfl).sI _ rfl).sI _ rfl).sI _ rfl
  have x1 : (sI (sI (sI (sI τ 5 2 (zI f)) 5 3 (zI n)) 5 4 (zI 0)) 5 1 (zI 0)).1 5 1 = zI 0 := rfl
  have hC : CT f n (fun j => rd σ 6 (f + j)) (sI (sI (sI (sI τ 5 2 (zI f)) 5 3 (zI n)) 5 4 (zI 0)) 5 1 (zI 0)) := ⟨rfl, rfl, fun j j0 j1 => by
    show τ.1 6 (f + j).toNat = _
    rw [e6, rd_k, toNat_c (by omega)]⟩
  have x4 : (sI (sI (sI (sI τ 5 2 (zI f)) 5 3 (zI n)) 5 4 (zI 0)) 5 1 (zI 0)).1 5 4 = zI 0 := rfl
  generalize sI (sI (sI (sI τ 5 2 (zI f)) 5 3 (zI n)) 5 4 (zI 0)) 5 1 (zI 0) = σ1 at F1 x1 x4 et hC
  obtain ⟨σ2, F2, eN, bd, hN⟩ := wordN ha (d := d2) (s := s) hC x4 f0 (by omega) (by omega) tb sx
  have F02 : Fr (SNa a) τ σ2 := FrU F1 F2 (U := SNa a) fun b k e => by
    simp only [SNa, Bool.or_eq_false_iff] at e
    exact ⟨e.2, e.1⟩
  refine ⟨σ1, σ2, et, F1.1, eN, F02, ?_, bd, fun υ hυ => ?_⟩
  · have : σ2.1 5 1 = zI 0 := (F2.2 _ _ (by rcases ha with rfl | rfl <;> rfl)).trans x1
    unfold rd
    rw [show (1 : Int).toNat = 1 from rfl, this]; rfl
  have hT : MT f n (fun j => rd σ 6 (f + j)) υ := fun j j0 j1 => by
    rw [hυ]; exact (t3 (f + j) (by omega) (by omega)).2.2
  have nz : ∀ u, wRun (fun j => rd σ 6 (f + j)) n n.toNat 0 W0 = Sum.inl u → u ≠ 0 := fun u e => by
    obtain ⟨_, _, hh, _⟩ := wordRead_sp ha (d := d2) (s := s) hC x4 f0 (by omega) (by omega) tb
    have := (hh u e).1
    omega
  obtain ⟨σ3, F3, eM, hM, hz⟩ := wordM (d := d3) (s := s) hT f0 (by omega) (by omega) tb sx nz
  refine ⟨σ3, F3, eM, fun z => ?_, hz⟩
  obtain ⟨W, w1, w2, w3⟩ := hN z
  obtain ⟨W', v1, v2, v3⟩ := hM z
  obtain rfl : W = W' := Sum.inr.inj (w1.symm.trans v1)
  exact ⟨W, w2, w3, wRun0_size w1, v2⟩
theorem sortByAny {σ : Sg} {d : Nat} {v : Int32} : ∃ e, f_M_sortBy (d + 1) v σ = rI e σ := by
  rw [f_M_sortBy_eq]
  repeat' split
  all_goals exact ⟨_, rfl⟩
theorem sortEndAny {σ : Sg} {d : Nat} {s z : Int} (e : σ.1 102 38 = zI z) (z0 : 0 ≤ z) (z1 : z ≤ 24) : ∃ v, f_M_sortBehind (d + 2) (zI s) σ = rI v σ := by
  rw [f_M_sortBehind_eq, e, zI_0]
  by_cases q : z = 0
  · rw [if_pos (congrArg zI q)]; exact ⟨_, rfl⟩
  · obtain ⟨v, hv⟩ := sortByAny (σ := σ) (d := d) (v := σ.1 124 (z - 1).toNat)
    rw [if_neg (by rw [zI_eq (by omega) (by decide)]; exact q), show (1 : Int32) = zI 1 from zI_lit 1, zI_sub, bnd_zI (by omega) (by omega) (by omega), ix_zI (by omega) (by omega), hv, cI_rI]
    exact ⟨_, rfl⟩
noncomputable def alkN (n m s : Int) (τ : Sg) : Rs := cV (f_Tape_take 99 (zI n) (zI m) τ) fun σ53 => cI (f_Word_read 99 55 (zI s) σ53) fun v55 σ54 => if v55 = zI 0 then cI (f_Word_sortAtEnd 99 49 σ54) fun v57 σ56 => cI (f_Word_sortAtEnd 99 55 σ56) fun v59 σ58 => if v57 = v59 then f_N_alike_159 99 (.int (zI n)) (.int (zI m)) (zI s) (.int (zI 1)) (.int v55) (zI 0) (zI 0) σ58 else rI (-4) σ58 else rI ((-100000) + v55) σ54
theorem alikeLoop {σ2 τ : Sg} {r : Nat} {n : Int} {W V : WS} {A B C M f : Int → Int} (c : CWo 49 W σ2) (c' : CWo 55 V σ2) (ok : WOk W) (ok' : WOk V) (m' : MWo V τ) (hr : RuleAt σ2 r n) (er : σ2.2.2 4 1 = r) (hm : MR4 τ n A B C M) (n0 : 0 ≤ n) (e0 : τ.1 102 5 = zI n) (eA : rd σ2 (r + 1) = A) (eB : rd σ2 (r + 2) = B) (eC : rd σ2 (r + 3) = C) (eM : rd σ2 (r + 4) = M) {s : Int} (s01 : s = 0 ∨ s = 1) (hf : fOf σ2 r W s = f) (h130 : ∀ y, 0 ≤ y → y < n → τ.1 130 y.toNat = zI (f y)) : ∀ (k : Nat) (i : Int) (S : Int32) (v x1 x2 x4 y1 y2 y4 y5 y6 : Value), i + k = n → 0 ≤ i → ∃ u, f_N_alike_159 99 x1 x2 (zI s) x4 v S (zI i) σ2 = rI u σ2 ∧ f_M_alike_163 99 y1 y2 (zI s) y4 y5 y6 S (zI i) τ = rI u τ := by
  have n6 := hr.2.2.1
  have hN : NmOk n A B C M := by rw [← eA, ← eB, ← eC, ← eM]; exact hr.2.2
  have hG := fun k s x h0 h1 => goF_lt hN (k := k) (s := s) (x := x) h0 h1
  have hf2 : fOf σ2 r V s = ldF (goF A B C M) V.st V.size.toNat 0 s := by unfold fOf gOf; rw [eA, eB, eC, eM]
  have er0 : σ2.1 r 0 = zI n := by rw [rd_k]; exact congrArg zI hr.2.1
  intro k
  induction k with
  | zero =>
    intro i S v x1 x2 x4 y1 y2 y4 y5 y6 hi i0
    have : i = n := by omega
    subst this
    refine ⟨S, ?_, ?_⟩
    · rw [f_N_alike_159_eq, er, gfI_of hr.1.s0, er0, if_neg Int32.lt_irrefl]
    · rw [f_M_alike_163_eq, e0, if_neg Int32.lt_irrefl]
  | succ k ih =>
    intro i S v x1 x2 x4 y1 y2 y4 y5 y6 hi i0
    have i1 : i < n := by omega
    have b1 := (fOf_on hr W s).1 i i0 i1
    have b2 := (fOf_on hr V s).1 i i0 i1
    have l1 := lead_sp (a := 49) (d := 97) (Or.inl rfl) c ok hr i0 i1 s01
    have l2 := lead_sp (a := 55) (d := 97) (Or.inr rfl) c' ok' hr i0 i1 s01
    have l3 := leadM_sp (d := 96) m' ok' hm hG i0 i1 s01
    rw [← hf2] at l3
    have l1 : f_Word_lead 99 49 r (zI i) (zI s) σ2 = rI (zI (fOf σ2 r W s i)) σ2 := l1
    have l2 : f_Word_lead 99 55 r (zI i) (zI s) σ2 = rI (zI (fOf σ2 r V s i)) σ2 := l2
    have e130 := h130 i i0 i1
    rw [← hf] at e130
    have pN : f_N_alike_159 99 x1 x2 (zI s) x4 v S (zI i) σ2 = if fOf σ2 r W s i = fOf σ2 r V s i then f_N_alike_159 99 x1 x2 (zI s) x4 (nlg v) (S ||| (zI 1 <<< (zI i &&& zI 31))) (zI (i + 1)) σ2 else f_N_alike_159 99 x1 x2 (zI s) x4 v S (zI (i + 1)) σ2 := by
      rw [f_N_alike_159_eq, er, gfI_of hr.1.s0, er0, if_pos (by rw [zI_le (by omega) (by omega)]; exact i1), l1, cI_rI, er, l2, cI_rI, show (1 : Int32) = zI 1 from zI_lit 1, show (31 : Int32) = zI 31 from zI_lit 31, zI_add]
      by_cases q : fOf σ2 r W s i = fOf σ2 r V s i
      · rw [if_pos (congrArg zI q), if_pos q]
      · rw [if_neg (by rw [zI_eq (by omega) (by omega)]; exact q), if_neg q]
    have pM : f_M_alike_163 99 y1 y2 (zI s) y4 y5 y6 S (zI i) τ = if fOf σ2 r W s i = fOf σ2 r V s i then f_M_alike_163 99 y1 y2 (zI s) y4 y5 (nlg y6) (S ||| (zI 1 <<< (zI i &&& zI 31))) (zI (i + 1)) τ else f_M_alike_163 99 y1 y2 (zI s) y4 y5 y6 S (zI (i + 1)) τ := by
      rw [f_M_alike_163_eq, e0, if_pos (by rw [zI_le (by omega) (by omega)]; exact i1), bnd_zI i0 (by omega) (by omega), ix_zI i0 (by omega), e130, l3, cI_rI, show (1 : Int32) = zI 1 from zI_lit 1, show (31 : Int32) = zI 31 from zI_lit 31, zI_add]
      by_cases q : fOf σ2 r W s i = fOf σ2 r V s i
      · rw [if_pos (congrArg zI q), if_pos q]
      · rw [if_neg (by rw [zI_eq (by omega) (by omega)]; exact q), if_neg q]
    by_cases q : fOf σ2 r W s i = fOf σ2 r V s i
    · rw [pN, pM, if_pos q, if_pos q]
      exact ih (i + 1) _ _ _ _ _ _ _ _ _ _ (by omega) (by omega)
    · rw [pN, pM, if_neg q, if_neg q]
      exact ih (i + 1) _ _ _ _ _ _ _ _ _ _ (by omega) (by omega)
theorem alikeFill {σ : Sg} {n : Int} {W : WS} {A B C M : Int → Int} (c : MWo W σ) (ok : WOk W) (hr : MR4 σ n A B C M) (n0 : 0 ≤ n ∧ n ≤ 6) (e0 : σ.1 102 5 = zI n) {s : Int} (s01 : s = 0 ∨ s = 1) {f : Int → Int} (hf : f = ldF (goF A B C M) W.st W.size.toNat 0 s) (hG : ∀ k s x, 0 ≤ x → x < n → 0 ≤ goF A B C M k s x ∧ goF A B C M k s x < n) {x1 x2 x5 : Int32} {v7 v8 : Value} : ∀ (k : Nat) (x : Int) (τ : Sg), x + k = n → 0 ≤ x → Fr (fun a _ => a == 130) σ τ → (∀ y, 0 ≤ y → y < x → τ.1 130 y.toNat = zI (f y)) → ∃ τ', Fr (fun a _ => a == 130) σ τ' ∧ f_M_alike_67 99 x1 x2 (zI s) (zI 0) x5 (zI x) v7 v8 τ = f_M_alike_67 99 x1 x2 (zI s) (zI 0) x5 (zI n) v7 v8 τ' ∧ (∀ y, 0 ≤ y → y < n → τ'.1 130 y.toNat = zI (f y)) := by
  intro k
  induction k with
  | zero =>
    intro x τ hx x0 F h
    have : x = n := by omega
    subst this
    exact ⟨τ, F, rfl, h⟩
  | succ k ih =>
    intro x τ hx x0 F h
    have x1' : x < n := by omega
    have e0' : τ.1 102 5 = zI n := (F.2 _ _ rfl).trans e0
    have c' : MWo W τ := ⟨(F.2 _ _ rfl).trans c.1, fun y y0 y1 => ⟨(F.2 _ _ rfl).trans (c.2 y y0 y1).1, (F.2 _ _ rfl).trans (c.2 y y0 y1).2⟩⟩
    have el : f_M_leadsTo 99 (zI x) (zI s) τ = rI (zI (f x)) τ := by
      rw [leadM_sp (d := 96) c' ok (hr.fr F rfl (fun _ => rfl) (fun _ => rfl)) hG x0 x1' s01, hf]
    obtain ⟨τ', F', e', h'⟩ := ih (x + 1) (sI τ 130 x.toNat (zI (f x))) (by omega) (by omega) (F.sI _ rfl) fun y y0 y1 => by
      by_cases q : y = x
      · subst q; rw [sI_same]
      · rw [sI_slot _ _ _ _ (by omega)]; exact h y y0 (by omega)
    refine ⟨τ', F', ?_, h'⟩
    rw [← e', f_M_alike_67_eq, e0', if_pos (by rw [zI_le (by omega) (by omega)]; omega), zI_0, if_pos rfl, el, cI_rI]
    simp only [ix_zI x0 (show x < 2147483648 by omega), bnd_zI x0 (show x < (6 : Nat) by omega) (show x < 2147483648 by omega), show (1 : Int32) = zI 1 from zI_lit 1, zI_add]
