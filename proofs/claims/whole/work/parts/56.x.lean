/-! the reference reads a word -/
def SMw (a k : Nat) : Bool := a == 124 || a == 125 || a == 126 || a == 127 || a == 128 || (a == 102 && (k == 8 || k == 9 || k == 10 || k == 13 || k == 15 || k == 38 || k == 39 || k == 40 || k == 41 || k == 42))
def MW (f n i : Int) (W : WS) (σ : Sg) : Prop := σ.1 102 38 = zI W.size ∧ σ.1 102 39 = zI W.op ∧ σ.1 102 42 = zI f ∧ σ.1 102 8 = zI (f + i) ∧ σ.1 102 9 = zI (f + n) ∧ (∀ x, 0 ≤ x → x < W.size → σ.1 124 x.toNat = zI (W.st x) ∧ σ.1 125 x.toNat = zI (W.pl x)) ∧ ∀ x, 0 ≤ x → x < W.op → σ.1 126 x.toNat = zI (f + W.oa x) ∧ σ.1 127 x.toNat = zI (W.os x) ∧ σ.1 128 x.toNat = zI (W.ot x)
def MT (f n : Int) (T : Int → Int) (σ : Sg) : Prop := ∀ j, 0 ≤ j → j < n → σ.1 108 (f + j).toNat &&& zI 255 = zI (T j)
theorem here_sp {σ : Sg} {d : Nat} {f n i : Int} {T : Int → Int} (ht : MT f n T σ) (e8 : σ.1 102 8 = zI (f + i)) (e9 : σ.1 102 9 = zI (f + n)) (f0 : 0 ≤ f) (fn : f + n ≤ 260) (i0 : 0 ≤ i) (i1 : i ≤ n) : f_M_here (d + 1) σ = rI (zI (if i < n then T i else -1)) σ := by
  rw [f_M_here_eq, e8, e9]
  by_cases q : i < n
  · rw [if_pos (by rw [zI_le (by omega) (by omega)]; omega), if_pos q, bnd_zI (by omega) (by omega) (by omega), ix_zI (by omega) (by omega), show (255 : Int32) = zI 255 from zI_lit 255, ht i i0 q]
  · rw [if_neg (by rw [zI_le (by omega) (by omega)]; omega), if_neg q]; rfl
theorem wrongAt_sp {σ : Sg} {d : Nat} {c v : Int} : f_M_wrongAt (d + 1) (zI c) (zI v) σ = rI (zI 0) (sI σ 102 10 (zI (-1000 * c - v))) := by
  rw [f_M_wrongAt_eq, show (-1000 : Int32) = zI (-1000) from rfl, zI_mul, zI_sub]
  show rZ 0 _ = _
  rw [rZ_0]
def SRp (a k : Nat) : Bool := a == 124 || a == 125 || (a == 102 && k == 38)
theorem repeats_sp {σ : Sg} {d : Nat} {first z t s : Int} {g h : Int → Int} (f0 : 0 ≤ first) (fz : first < z) (z24 : z ≤ 24) (t0 : 1 ≤ t) (t9 : t ≤ 9) (e38 : σ.1 102 38 = zI z) (hr : ∀ x, 0 ≤ x → x < z → σ.1 124 x.toNat = zI (g x) ∧ σ.1 125 x.toNat = zI (h x)) :
    (24 < first + (z - first) * t ∧ f_M_repeats (d + 2) (zI first) (zI t) (zI s) σ = rI (zI 0) (sI σ 102 10 (zI (-6000 - s)))) ∨
    (first + (z - first) * t ≤ 24 ∧ ∃ σ', Fr SRp σ σ' ∧ f_M_repeats (d + 2) (zI first) (zI t) (zI s) σ = rI (zI 1) σ' ∧ σ'.1 102 38 = zI (first + (z - first) * t) ∧ ∀ x, 0 ≤ x → x < first + (z - first) * t → σ'.1 124 x.toNat = zI (wrep g first (z - first) x) ∧ σ'.1 125 x.toNat = zI (wrep h first (z - first) x)) := by
  have m1 : (z - first) * 1 ≤ (z - first) * t := Int.mul_le_mul_of_nonneg_left t0 (by omega)
  have m2 : (z - first) * t ≤ (z - first) * 9 := Int.mul_le_mul_of_nonneg_left t9 (by omega)
  have start : f_M_repeats (d + 2) (zI first) (zI t) (zI s) σ = if 24 < first + (z - first) * t then rI (zI 0) (sI σ 102 10 (zI (-6000 - s))) else f_M_repeats_33 (d + 1) (zI first) (zI t) (.int (zI s)) (zI (z - first)) (zI (first + (z - first))) σ := by
    rw [f_M_repeats_eq, e38, zI_sub, zI_mul, zI_add, zI_add, show (24 : Int32) = zI 24 from zI_lit 24]
    by_cases q : 24 < first + (z - first) * t
    · rw [if_pos (by rw [zI_le (by omega) (by omega)]; exact q), if_pos q, show (6 : Int32) = zI 6 from zI_lit 6, wrongAt_sp, cI_rI]
      show rZ (zI 0) _ = _
      rw [rZ_z0]; rfl
    · rw [if_neg (by rw [zI_le (by omega) (by omega)]; exact q), if_neg q]
  by_cases q : 24 < first + (z - first) * t
  · exact Or.inl ⟨q, by rw [start, if_pos q]⟩
  · refine Or.inr ⟨by omega, ?_⟩
    rw [start, if_neg q]
    generalize hl : first + (z - first) * t = last at *
    have loop : ∀ (n : Nat) (y : Int) (τ : Sg), y + n = last → z ≤ y → Fr SRp σ τ → (∀ x, 0 ≤ x → x < y → τ.1 124 x.toNat = zI (wrep g first (z - first) x) ∧ τ.1 125 x.toNat = zI (wrep h first (z - first) x)) → ∃ σ', Fr SRp σ σ' ∧ f_M_repeats_33 (d + 1) (zI first) (zI t) (.int (zI s)) (zI (z - first)) (zI y) τ = rI (zI 1) σ' ∧ σ'.1 102 38 = zI last ∧ ∀ x, 0 ≤ x → x < last → σ'.1 124 x.toNat = zI (wrep g first (z - first) x) ∧ σ'.1 125 x.toNat = zI (wrep h first (z - first) x) := by
      intro n
      induction n with
      | zero =>
        intro y τ hy zy F hx
        have : y = last := by omega
        subst this
        refine ⟨sI τ 102 38 (zI y), F.sI _ rfl, ?_, sI_same _ _ _ _, fun x x0 x1 => ?_⟩
        · rw [f_M_repeats_33_eq, zI_mul, zI_add, hl, if_neg Int32.lt_irrefl]
          exact rZ_1 _
        · rw [sI_row _ _ _ _ _ (by decide), sI_row _ _ _ _ _ (by decide)]; exact hx x x0 x1
      | succ n ih =>
        intro y τ hy zy F hx
        obtain ⟨r1, r2⟩ := hx (y - (z - first)) (by omega) (by omega)
        have p1 : wrep g first (z - first) y = wrep g first (z - first) (y - (z - first)) := wrep_st (by omega) (by omega)
        have p2 : wrep h first (z - first) y = wrep h first (z - first) (y - (z - first)) := wrep_st (by omega) (by omega)
        have stp : f_M_repeats_33 (d + 1) (zI first) (zI t) (.int (zI s)) (zI (z - first)) (zI y) τ = f_M_repeats_33 (d + 1) (zI first) (zI t) (.int (zI s)) (zI (z - first)) (zI (y + 1)) (sI (sI τ 124 y.toNat (zI (wrep g first (z - first) y))) 125 y.toNat (zI (wrep h first (z - first) y))) := by
          rw [f_M_repeats_33_eq, zI_mul, zI_add, hl, if_pos (by rw [zI_le (by omega) (by omega)]; omega), zI_sub, bnd_zI (by omega) (by omega) (by omega), bnd_zI (by omega) (by omega) (by omega), bnd_zI (by omega) (by omega) (by omega), bnd_zI (by omega) (by omega) (by omega), ix_zI (by omega) (by omega), ix_zI (by omega) (by omega)]
          show f_M_repeats_33 (d + 1) (zI first) (zI t) (.int (zI s)) (zI (z - first)) (zI y + 1) (sI (sI τ 124 y.toNat (τ.1 124 (y - (z - first)).toNat)) 125 y.toNat ((sI τ 124 y.toNat (τ.1 124 (y - (z - first)).toNat)).1 125 (y - (z - first)).toNat)) = _
          rw [sI_row _ _ _ _ _ (by decide), r1, r2, p1, p2, show (1 : Int32) = zI 1 from zI_lit 1, zI_add]
        rw [stp]
        refine ih (y + 1) _ (by omega) (by omega) ((F.sI _ rfl).sI _ rfl) fun x x0 x1 => ?_
        rw [sI_row _ _ _ _ _ (by decide)]
        by_cases e : x = y
        · subst e
          rw [sI_same, sI_same]; exact ⟨rfl, rfl⟩
        · rw [sI_slot _ _ _ _ (by omega), sI_slot _ _ _ _ (by omega), sI_row _ _ _ _ _ (by decide)]
          exact hx x x0 (by omega)
    rw [show first + (z - first) = z by omega]
    exact loop (last - z).toNat z σ (by omega) (by omega) (Fr.rf _ _) fun x x0 x1 => by
      unfold wrep
      rw [if_pos (by omega), if_pos (by omega)]; exact hr x x0 x1
