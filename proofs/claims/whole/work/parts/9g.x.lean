/-! settle: a name from another -/
def SHo (a _k : Nat) : Bool := a == 75 || a == 76 || a == 77 || a == 78 || a == 79 || a == 80 || a == 81
def S78 (a _k : Nat) : Bool := a == 78
def PX (r p : Nat) (n m : Int) (W H C M S T F G D : Int → Int) (σ : Sg) : Prop := isP p ∧ RuleAt σ r n ∧ 0 ≤ n ∧ (rd σ (r + 1) = W ∧ rd σ (r + 2) = H ∧ rd σ (r + 3) = C ∧ rd σ (r + 4) = M) ∧ RoC p σ m S T F G D ∧ RlOk n m S T F G D
theorem PX.fr {r p : Nat} {n m : Int} {W H C M S T F G D : Int → Int} {σ σ' : Sg} (h : PX r p n m W H C M S T F G D σ) (K : Fr SHo σ σ') : PX r p n m W H C M S T F G D σ' := by
  obtain ⟨hp, hr, n0, ⟨e1, e2, e3, e4⟩, hc, ok⟩ := h
  obtain ⟨q0, q1, q2, q3, q4⟩ := hr.fr5 K (by intro k; rcases hr.1 with rfl | rfl <;> exact ⟨rfl, rfl, rfl, rfl, rfl⟩)
  refine ⟨hp, q0, n0, ⟨q1.trans e1, q2.trans e2, q3.trans e3, q4.trans e4⟩, ⟨hp, ?_, fun x x0 => ?_⟩, ok⟩
  · rw [fr_rd K (by rcases hp with rfl | rfl <;> rfl)]; exact hc.2.1
  · obtain ⟨a1, a2, a3, a4, a5⟩ := hc.2.2 x x0
    have e : ∀ a, (a = p + 1 ∨ a = p + 2 ∨ a = p + 3 ∨ a = p + 4 ∨ a = p + 5) → σ'.1 a x.toNat = σ.1 a x.toNat := fun a q => K.2 _ _ (by rcases hp with rfl | rfl <;> rcases q with rfl | rfl | rfl | rfl | rfl <;> rfl)
    rw [e _ (by simp), e _ (by simp), e _ (by simp), e _ (by simp), e _ (by simp)]
    exact ⟨a1, a2, a3, a4, a5⟩
theorem PX.nm {r p : Nat} {n m : Int} {W H C M S T F G D : Int → Int} {σ : Sg} (h : PX r p n m W H C M S T F G D σ) : NmOk n W H C M ∧ (0 ≤ n ∧ n ≤ 6) ∧ 0 ≤ m ∧ m ≤ 24 := by
  obtain ⟨hp, hr, n0, ⟨e1, e2, e3, e4⟩, hc, ok⟩ := h
  have := hr.2.2
  rw [e1, e2, e3, e4] at this
  exact ⟨this, ⟨n0, this.1⟩, ok.1, ok.2.1⟩
theorem PX.go {r p : Nat} {n m : Int} {W H C M S T F G D : Int → Int} {σ : Sg} (h : PX r p n m W H C M S T F G D σ) {d : Nat} {k s x : Int} (hk : 0 ≤ k) (hk' : k < 8) (hs : s = 0 ∨ s = 1) (h0 : 0 ≤ x) (h1 : x < n) : f_Rule_go (d + 1) r (zI k) (zI s) (zI x) σ = rI (zI (goF W H C M k s x)) σ := by
  obtain ⟨hp, hr, n0, ⟨e1, e2, e3, e4⟩, hc, ok⟩ := h
  rw [go_sp hr hk hk' (by omega) (by omega) h0 h1, e1, e2, e3, e4]
theorem PX.sp {r p : Nat} {n m : Int} {W H C M S T F G D : Int → Int} {σ : Sg} (h : PX r p n m W H C M S T F G D σ) {d : Nat} {s x : Int} (hs : s = 0 ∨ s = 1) (h0 : 0 ≤ x) (h1 : x < n) : f_Rule_spouse (d + 1) r (zI s) (zI x) σ = rI (zI (spF W H s x)) σ := by
  obtain ⟨hp, hr, n0, ⟨e1, e2, e3, e4⟩, hc, ok⟩ := h
  rw [spouse_sp hr hs h0 h1, e1, e2]
theorem PX.has {r p : Nat} {n m : Int} {W H C M S T F G D : Int → Int} {σ : Sg} (h : PX r p n m W H C M S T F G D σ) {d : Nat} {a : Int} (ha : -1 ≤ a ∧ a < m) : f_Roll_has (d + 1) p (zI a) σ = rI (bz (decide (0 ≤ a))) σ := by
  obtain ⟨hp, hr, n0, -, hc, ok⟩ := h
  have := ok.1; have := ok.2.1
  rw [has_sp hp.s0 hc.2.1 ⟨by omega, by omega⟩ (by omega), show decide (0 ≤ a ∧ a < m) = decide (0 ≤ a) from decide_eq_decide.mpr ⟨fun q => q.1, fun q => ⟨q, ha.2⟩⟩]
def nnF (W H C M S : Int → Int) (g : Int → Int) (q o st : Int) : Int → Int := if g o = -1 then mup g o (goF W H C M st (S q) (g q)) else mup g q (if st = 0 ∨ st = 1 then goF W H C M 4 (S o) (g o) else spF W H (S o) (g o))
theorem nameNext_sp {r p : Nat} {n m : Int} {W H C M S T F G D : Int → Int} {σ : Sg} (hx : PX r p n m W H C M S T F G D σ) {d : Nat} {g : Int → Int} (hg : ∀ y, 0 ≤ y → y < m → σ.1 78 y.toNat = zI (g y)) (hb : ∀ y, 0 ≤ y → y < m → -1 ≤ g y ∧ g y < n) {q o st : Int} (q0 : 0 ≤ q) (q1 : q < m) (o0 : -1 ≤ o) (o1 : o < m) (hst : st = 0 ∨ st = 1 ∨ st = 2 ∨ st = 3) : ∃ σ' g' b, f_Houses_nameNext (d + 2) r p (zI q) (zI o) (zI st) σ = rI (bz b) σ' ∧ Fr S78 σ σ' ∧ (∀ y, 0 ≤ y → y < m → σ'.1 78 y.toNat = zI (g' y)) ∧
    ((b = false ∧ g' = g ∧ (0 ≤ o → (g q = -1 ↔ g o = -1))) ∨ (b = true ∧ 0 ≤ o ∧ (g q = -1 ↔ ¬ g o = -1) ∧ g' = nnF W H C M S g q o st)) := by
  obtain ⟨nm, ⟨n0, n6⟩, m0, m24⟩ := hx.nm
  have hP := hx.1
  have hR := hx.2.1
  obtain ⟨-, -, hc⟩ := hx.2.2.2.2.1
  have hS := fun y y0 y1 => (hx.2.2.2.2.2.bd n6 (x := y) y0 y1).1
  rw [f_Houses_nameNext_eq, gdK_of hP.s0, hx.has ⟨o0, o1⟩, cI_rI]
  by_cases oz : 0 ≤ o
  · have bq : ∀ R, bnd (zI q) 24 R = R := fun R => bnd_zI q0 (by omega) (by omega)
    have bo : ∀ R, bnd (zI o) 24 R = R := fun R => bnd_zI oz (by omega) (by omega)
    have sq : σ.1 (p + 1) q.toNat = zI (S q) := (hc q q0).1
    have so : σ.1 (p + 1) o.toNat = zI (S o) := (hc o oz).1
    obtain ⟨bq1, bq2⟩ := hb q q0 q1
    obtain ⟨bo1, bo2⟩ := hb o oz o1
    have eq : (zI (g q) = zI (-1)) = (g q = -1) := zI_eq (by omega) (by decide)
    have eo : (zI (g o) = zI (-1)) = (g o = -1) := zI_eq (by omega) (by decide)
    have cell : ∀ (a v : Int), 0 ≤ a → ∀ y, 0 ≤ y → y < m → (sI σ 78 a.toNat (zI v)).1 78 y.toNat = zI (mup g a v y) := fun a v a0 y y0 y1 => by
      by_cases e : y = a
      · subst e; rw [sI_same, mup_same]
      · rw [sI_slot _ _ _ _ (by omega), mup_ne e]; exact hg y y0 y1
    rw [decide_eq_true oz, bz_tt, if_neg (by decide)]
    simp only [bq, bo, ix_zI q0 (show q < 2147483648 by omega), ix_zI oz (show o < 2147483648 by omega), hg q q0 q1, hg o oz o1, show (-1 : Int32) = zI (-1) from rfl, gfS_of hP.s0, ofs_4_1, ldi_of hP.s1 q0 (show q < (24 : Nat) by omega) (show q < 2147483648 by omega), ldi_of hP.s1 oz (show o < (24 : Nat) by omega) (show o < 2147483648 by omega), sq, so, gdK_of hR.1.s0]
    by_cases zq : g q = -1
    · rw [if_pos (by rw [eq]; exact zq)]
      by_cases zo : g o = -1
      · rw [if_pos (by rw [eo]; exact zo), if_pos (by decide)]
        exact ⟨σ, g, false, rfl, Fr.rf _ _, hg, Or.inl ⟨rfl, rfl, fun _ => by rw [zq, zo]⟩⟩
      · rw [if_neg (by rw [eo]; exact zo), if_neg (by decide), if_pos (by rw [eq]; exact zq)]
        have gv := hx.go (d := d) (k := 4) (by decide) (by decide) (hS o oz o1) (show 0 ≤ g o by omega) bo2
        have gs := hx.sp (d := d) (hS o oz o1) (show 0 ≤ g o by omega) bo2
        refine ⟨sI σ 78 q.toNat (zI (if st = 0 ∨ st = 1 then goF W H C M 4 (S o) (g o) else spF W H (S o) (g o))), _, true, ?_, (Fr.rf _ _).sI _ rfl, cell _ _ q0, Or.inr ⟨rfl, oz, ⟨fun _ => zo, fun _ => zq⟩, by unfold nnF; rw [if_neg zo]⟩⟩
        rw [show (4 : Int32) = zI 4 from zI_lit 4, gv, cI_rI, gs, cI_rI]
        rcases hst with rfl | rfl | rfl | rfl
        · rw [if_pos (by decide)]; rfl
        · rw [if_neg (by decide), if_pos (by decide)]; rfl
        · rw [if_neg (by decide), if_neg (by decide)]; rfl
        · rw [if_neg (by decide), if_neg (by decide)]; rfl
    · rw [if_neg (by rw [eq]; exact zq)]
      by_cases zo : g o = -1
      · rw [if_pos (by rw [eo]; exact zo), if_neg (by decide), if_neg (by rw [eq]; exact zq)]
        have gv := hx.go (d := d) (k := st) (by omega) (by omega) (hS q q0 q1) (show 0 ≤ g q by omega) bq2
        refine ⟨sI σ 78 o.toNat (zI (goF W H C M st (S q) (g q))), _, true, ?_, (Fr.rf _ _).sI _ rfl, cell _ _ oz, Or.inr ⟨rfl, oz, ⟨fun e => absurd e zq, fun e => absurd zo e⟩, by unfold nnF; rw [if_pos zo]⟩⟩
        rw [gv, cI_rI]; rfl
      · rw [if_neg (by rw [eo]; exact zo), if_pos (by decide)]
        exact ⟨σ, g, false, rfl, Fr.rf _ _, hg, Or.inl ⟨rfl, rfl, fun _ => ⟨fun e => absurd e zq, fun e => absurd e zo⟩⟩⟩
  · rw [decide_eq_false oz, bz_ff, if_pos (by decide)]
    exact ⟨σ, g, false, rfl, Fr.rf _ _, hg, Or.inl ⟨rfl, rfl, fun e => absurd e oz⟩⟩
