/-! settle: findBroken -/
def FnB (m : Int) (W H C M S F G D hd g : Int → Int) (s : Int32) : Prop := ∀ y, 0 ≤ y → y < 32 → (gb s y = true ↔ ∃ q, 0 ≤ q ∧ q < m ∧ hd q = y ∧ ¬ FitA W H C M S F G D g q)
theorem findBroken_sp {r p : Nat} {n m : Int} {W H C M S T F G D hd : Int → Int} {σ : Sg} (hx : PX r p n m W H C M S T F G D σ) (ho : HdOk m F G D hd) (hh : ∀ y, 0 ≤ y → y < m → σ.1 77 y.toNat = zI (hd y)) {d : Nat} {g : Int → Int} (hg : ∀ y, 0 ≤ y → y < m → σ.1 78 y.toNat = zI (g y)) (hb : ∀ y, 0 ≤ y → y < m → -1 ≤ g y ∧ g y < n) : ∃ σ', f_Houses_findBroken (d + 3) r p σ = rV σ' ∧ Fr S75 σ σ' ∧ FnB m W H C M S F G D hd g (σ'.1 75 6) := by
  obtain ⟨nm, ⟨n0, n6⟩, m0, m24⟩ := hx.nm
  have hP := hx.1
  have ok := hx.2.2.2.2.2
  have main : ∀ (k : Nat) (q : Int) (τ : Sg) (v : Value), q + k = m → 0 ≤ q → Fr S75 σ τ → FnB q W H C M S F G D hd g (τ.1 75 6) → ∃ τ', f_Houses_findBroken_7 (d + 2) r p (zI q) v τ = rV τ' ∧ Fr S75 σ τ' ∧ FnB m W H C M S F G D hd g (τ'.1 75 6) := by
    intro k
    induction k with
    | zero =>
      intro q τ v hq q0 K hf
      have : q = m := by omega
      subst this
      exact ⟨τ, by rw [f_Houses_findBroken_7_eq, gfI_of hP.s0, (hx.f75 K).e0, if_neg Int32.lt_irrefl], K, hf⟩
    | succ k ih =>
      intro q τ v hq q0 K hf
      have q1 : q < m := by omega
      have h1 := hx.f75 K
      have hc := h1.2.2.2.2.1.2.2
      obtain ⟨s01, -, ⟨f0, f1, f2⟩, ⟨g0, g1, g2⟩, d0, d1, d2⟩ := ok.bd n6 q0 q1
      have ob := ho q q0 q1
      have hg1 : ∀ y, 0 ≤ y → y < m → τ.1 78 y.toNat = zI (g y) := fun y y0 y1 => (K.2 _ _ rfl).trans (hg y y0 y1)
      obtain ⟨b1, a1, c1⟩ := fits_sp h1 (d := d) hg1 hb q0 q1 (o := F q) f0 f1 (st := 0) (Or.inl rfl)
      obtain ⟨b2, a2, c2⟩ := fits_sp h1 (d := d) hg1 hb q0 q1 (o := G q) g0 g1 (st := 1) (Or.inr (Or.inl rfl))
      obtain ⟨b3, a3, c3⟩ := fits_sp h1 (d := d) hg1 hb q0 q1 (o := D q) d0 d1 (st := if S q = 0 then 3 else 2) (by by_cases z : S q = 0 <;> simp [z])
      have e77 : τ.1 77 q.toNat = zI (hd q) := (K.2 _ _ rfl).trans (hh q q0 q1)
      have bad : ∀ (v : Value), ¬ FitA W H C M S F G D g q → ∃ τ', f_Houses_findBroken_7 (d + 2) r p (zI (q + 1)) v (sI τ 75 6 (τ.1 75 6 ||| (zI 1 <<< (zI (hd q) &&& zI 31)))) = rV τ' ∧ Fr S75 σ τ' ∧ FnB m W H C M S F G D hd g (τ'.1 75 6) := fun v nf => by
        refine ih (q + 1) _ v (by omega) (by omega) (K.sI _ rfl) fun y y0 y1 => ?_
        rw [sI_same, gb_or, Bool.or_eq_true, hf y y0 y1, gb_sh ob.1 (by omega) y0 y1, decide_eq_true_eq]
        constructor
        · rintro (⟨j, j0, j1, j2, j3⟩ | e)
          · exact ⟨j, j0, by omega, j2, j3⟩
          · exact ⟨q, q0, by omega, e.symm, nf⟩
        · rintro ⟨j, j0, j1, j2, j3⟩
          by_cases e : j = q
          · subst e; exact Or.inr j2.symm
          · exact Or.inl ⟨j, j0, by omega, j2, j3⟩
      have good : ∀ (v : Value), FitA W H C M S F G D g q → ∃ τ', f_Houses_findBroken_7 (d + 2) r p (zI (q + 1)) v τ = rV τ' ∧ Fr S75 σ τ' ∧ FnB m W H C M S F G D hd g (τ'.1 75 6) := fun v fa => by
        refine ih (q + 1) _ v (by omega) (by omega) K fun y y0 y1 => ?_
        rw [hf y y0 y1]
        constructor
        · rintro ⟨j, j0, j1, j2, j3⟩
          exact ⟨j, j0, by omega, j2, j3⟩
        · rintro ⟨j, j0, j1, j2, j3⟩
          by_cases e : j = q
          · subst e; exact absurd fa j3
          · exact ⟨j, j0, by omega, j2, j3⟩
      rw [f_Houses_findBroken_7_eq, gfI_of hP.s0, h1.e0, if_pos (by rw [zI_le (by omega) (by omega)]; exact q1), gfS_of hP.s0, ofs_4_3, ldi_of hP.s3 q0 (by omega) (by omega), (hc q q0).2.2.1]
      simp only [show (0 : Int32) = zI 0 from zI_0, show (1 : Int32) = zI 1 from zI_lit 1, show (3 : Int32) = zI 3 from zI_lit 3, show (2 : Int32) = zI 2 from zI_lit 2, show (31 : Int32) = zI 31 from zI_lit 31, zI_add, bnd_zI q0 (show q < (24 : Nat) by omega) (show q < 2147483648 by omega), ix_zI q0 (show q < 2147483648 by omega)]
      rw [a1, cI_rI]
      cases b1 with
      | false =>
        rw [bz_ff, if_pos (by decide), if_pos (by decide), e77]
        exact bad _ fun z => absurd (c1.mpr z.1) Bool.false_ne_true
      | true =>
        rw [bz_tt, if_neg (by decide), gfS_of hP.s0, ofs_4_4, ldi_of hP.s4 q0 (by omega) (by omega), (hc q q0).2.2.2.1, a2, cI_rI]
        cases b2 with
        | false =>
          rw [bz_ff, if_pos (by decide), if_pos (by decide), e77]
          exact bad _ fun z => absurd (c2.mpr z.2.1) Bool.false_ne_true
        | true =>
          rw [bz_tt, if_neg (by decide), gfS_of hP.s0, ofs_4_5, ldi_of hP.s5 q0 (by omega) (by omega), (hc q q0).2.2.2.2, gfS_of hP.s0, ofs_4_1, ldi_of hP.s1 q0 (by omega) (by omega), (hc q q0).1]
          by_cases z : S q = 0
          · rw [if_pos z] at a3
            rw [if_pos (by rw [zI_eq (by omega) (by decide)]; exact z), a3, cI_rI]
            cases b3 with
            | false =>
              rw [bz_ff, if_pos (by decide), if_pos (by decide), e77]
              exact bad _ fun z => absurd (c3.mpr z.2.2) Bool.false_ne_true
            | true =>
              rw [bz_tt, if_neg (by decide), if_neg (by decide)]
              exact good _ ⟨c1.mp rfl, c2.mp rfl, c3.mp rfl⟩
          · rw [if_neg z] at a3
            rw [if_neg (by rw [zI_eq (by omega) (by decide)]; exact z), a3, cI_rI]
            cases b3 with
            | false =>
              rw [bz_ff, if_pos (by decide), if_pos (by decide), e77]
              exact bad _ fun z => absurd (c3.mpr z.2.2) Bool.false_ne_true
            | true =>
              rw [bz_tt, if_neg (by decide), if_neg (by decide)]
              exact good _ ⟨c1.mp rfl, c2.mp rfl, c3.mp rfl⟩
  rw [f_Houses_findBroken_eq, zI_0]
  exact main m.toNat 0 (sI σ 75 6 (zI 0)) .null (by omega) (by decide) ((Fr.rf _ _).sI _ rfl) fun y y0 y1 => by
    rw [sI_same, gb_0]
    exact ⟨fun q => absurd q Bool.false_ne_true, fun ⟨j, j0, j1, _⟩ => by omega⟩
/-- what a trial says, purely -/
theorem trial {n m : Int} {W H C M S T F G D hd : Int → Int} (nm : NmOk n W H C M) (rl : RlOk n m S T F G D) (ho : HdOk m F G D hd) {i : Int} (i0 : 0 ≤ i) (i1 : i < n) {g : Int → Int} (hj : JA n m W H M S F G D hd i g) (hE : ∀ q, 0 ≤ q → q < m → EPn F G D g q) {s : Int32} (hs : FnB m W H C M S F G D hd g s) {h : Int} (h0 : 0 ≤ h) (h1 : h < m) (hhd : hd h = h) : (gb s h = false → Cs n m W H M S F G D h g ∧ g h = i) ∧ (gb s h = true → ¬ ∃ c, Cs n m W H M S F G D h c ∧ c h = i) := by
  have m24 := rl.2.1
  have gh := hj.2.1 h h0 h1 hhd
  have hdq : ∀ q, 0 ≤ q → q < m → Hs m F G D h q → hd q = h := fun q q0 q1 hq => by
    have l1 := (ho q q0 q1).2.2.2 h h0 h1 hq.sy
    obtain ⟨u0, u1, u2, -⟩ := ho q q0 q1
    have l2 := (ho h h0 h1).2.2.2 _ u0 (by omega) (hq.tr u2)
    omega
  have named : ∀ q, 0 ≤ q → q < m → Hs m F G D h q → g q ≠ -1 := fun q q0 q1 hq => by
    have key := hq (fun z => g z ≠ -1) (show g h ≠ -1 by omega) fun u u0 u1 => by
      obtain ⟨e1, e2, e3⟩ := hE u u0 u1
      exact ⟨fun z => not_congr (e1 z), fun z => not_congr (e2 z), fun z => not_congr (e3 z)⟩
    exact key
  constructor
  · intro hb
    refine ⟨fun q q0 q1 hq => ?_, gh⟩
    have fit : FitA W H C M S F G D g q := Classical.byContradiction fun nf => by
      have := (hs h h0 (by omega)).mpr ⟨q, q0, q1, hdq q q0 q1 hq, nf⟩
      rw [hb] at this; cases this
    have ne := named q q0 q1 hq
    have bq := hj.1 q q0 q1
    refine ⟨by omega, bq.2, fun f => (fit.1 f).2, fun f => (fit.2.1 f).2, fun f => ?_⟩
    have := (fit.2.2 f).2
    by_cases z : S q = 0
    · rw [if_pos z] at this ⊢; exact this
    · rw [if_neg z] at this ⊢; exact this
  · rintro hb ⟨c, cs, ci⟩
    obtain ⟨q, q0, q1, e, nf⟩ := (hs h h0 (by omega)).mp hb
    have hq : Hs m F G D h q := by
      have := (ho q q0 q1).2.2.1
      rw [e] at this; exact this.sy
    have eqc : ∀ y, 0 ≤ y → y < m → Hs m F G D h y → g y = c y := fun y y0 y1 hy => hj.2.2 h c h0 h1 hhd cs ci y y0 y1 hy (named y y0 y1 hy)
    have fe : ∀ o st, Edg S F G D q o st → FitE W H C M S g q o st := fun o st ed oz => by
      obtain ⟨o1, hqo, -, hc⟩ := edg_c nm rl q0 q1 oz ed
      refine ⟨named q q0 q1 hq, ?_⟩
      rw [eqc o oz o1 (hq.tr hqo), eqc q q0 q1 hq]
      exact (hc h c cs hq).1
    exact nf ⟨fe _ _ (Or.inl ⟨rfl, rfl⟩), fe _ _ (Or.inr (Or.inl ⟨rfl, rfl⟩)), fe _ _ (Or.inr (Or.inr ⟨rfl, rfl⟩))⟩
