/-! settle: heads; what is broken -/
def S77 (a _k : Nat) : Bool := a == 77
def S75 (a _k : Nat) : Bool := a == 75
theorem PX.f77 {r p : Nat} {n m : Int} {W H C M S T F G D : Int → Int} {σ σ' : Sg} (h : PX r p n m W H C M S T F G D σ) (K : Fr S77 σ σ') : PX r p n m W H C M S T F G D σ' := h.fr (K.mono fun a k e => by simp only [SHo, Bool.or_eq_false_iff] at e; exact e.1.1.1.1.2)
theorem PX.f75 {r p : Nat} {n m : Int} {W H C M S T F G D : Int → Int} {σ σ' : Sg} (h : PX r p n m W H C M S T F G D σ) (K : Fr S75 σ σ') : PX r p n m W H C M S T F G D σ' := h.fr (K.mono fun a k e => by simp only [SHo, Bool.or_eq_false_iff] at e; exact e.1.1.1.1.1.1)
theorem PX.e0 {r p : Nat} {n m : Int} {W H C M S T F G D : Int → Int} {σ : Sg} (h : PX r p n m W H C M S T F G D σ) : σ.1 p 0 = zI m := by rw [show σ.1 p 0 = zI (rd σ p 0) from rd_k σ p 0, h.2.2.2.2.1.2.1]
theorem joinTo_sp {r p : Nat} {n m : Int} {W H C M S T F G D : Int → Int} {σ : Sg} (hx : PX r p n m W H C M S T F G D σ) {d : Nat} {E : Int → Int → Prop} {L : Int → Int} (hL : Lab m E L) (hh : ∀ y, 0 ≤ y → y < m → σ.1 77 y.toNat = zI (L y)) {q o : Int} (q0 : 0 ≤ q) (q1 : q < m) (o0 : -1 ≤ o) (o1 : o < m) : ∃ σ' L', f_Houses_joinTo (d + 2) p (zI q) (zI o) σ = rV σ' ∧ Fr S77 σ σ' ∧ Lab m (fun u v => E u v ∨ 0 ≤ o ∧ u = q ∧ v = o) L' ∧ ∀ y, 0 ≤ y → y < m → σ'.1 77 y.toNat = zI (L' y) := by
  obtain ⟨nm, ⟨n0, n6⟩, m0, m24⟩ := hx.nm
  have hP := hx.1
  rw [f_Houses_joinTo_eq, gdK_of hP.s0, hx.has ⟨o0, o1⟩, cI_rI]
  by_cases oz : 0 ≤ o
  · obtain ⟨σ', a1, K, a2⟩ := join_sp (σ := σ) (a := 77) (N := 24) rfl (by decide) (d := d) (n := m) (x := q) (y := o) m24 q0 q1 oz o1 (fun i i0 i1 => ⟨hh i i0 i1, (hL.2 i i0 i1).1, by have := (hL.2 i i0 i1).2.1; omega⟩)
    refine ⟨σ', jnF L q o, ?_, K, (hL.join q0 q1 oz o1).congr fun u v => ⟨fun z => z.elim Or.inl fun z => Or.inr ⟨oz, z⟩, fun z => z.elim Or.inl fun z => Or.inr z.2⟩, a2⟩
    rw [decide_eq_true oz, bz_tt, if_neg (by decide), gfI_of hP.s0, hx.e0, a1, cV_rV]
  · refine ⟨σ, L, ?_, Fr.rf _ _, hL.congr fun u v => ⟨Or.inl, fun z => z.elim id fun z => absurd z.1 oz⟩, hh⟩
    rw [decide_eq_false oz, bz_ff, if_pos (by decide)]
def hdE (F G D : Int → Int) (i u v : Int) : Prop := 0 ≤ u ∧ u < i ∧ 0 ≤ v ∧ (v = F u ∨ v = G u ∨ v = D u)
theorem hs_cn {m : Int} {F G D : Int → Int} {x y : Int} : Hs m F G D x y ↔ Cn (hdE F G D m) x y := by
  constructor
  · intro h K kx e
    exact h K kx fun u u0 u1 => ⟨fun z => e u _ ⟨u0, u1, z, Or.inl rfl⟩, fun z => e u _ ⟨u0, u1, z, Or.inr (Or.inl rfl)⟩, fun z => e u _ ⟨u0, u1, z, Or.inr (Or.inr rfl)⟩⟩
  · intro h K kx e
    refine h K kx fun u v => ?_
    rintro ⟨u0, u1, v0, rfl | rfl | rfl⟩
    · exact (e u u0 u1).1 v0
    · exact (e u u0 u1).2.1 v0
    · exact (e u u0 u1).2.2 v0
theorem findHeads_sp {r p : Nat} {n m : Int} {W H C M S T F G D : Int → Int} {σ : Sg} (hx : PX r p n m W H C M S T F G D σ) {d : Nat} : ∃ σ' hd, f_Houses_findHeads (d + 3) p σ = rV σ' ∧ Fr S77 σ σ' ∧ HdOk m F G D hd ∧ ∀ y, 0 ≤ y → y < m → σ'.1 77 y.toNat = zI (hd y) := by
  obtain ⟨nm, ⟨n0, n6⟩, m0, m24⟩ := hx.nm
  have hP := hx.1
  have ok := hx.2.2.2.2.2
  have init : ∀ (k : Nat) (q : Int) (τ : Sg), q + k = m → 0 ≤ q → Fr S77 σ τ → (∀ y, 0 ≤ y → y < q → τ.1 77 y.toNat = zI y) → ∃ τ', f_Houses_findHeads_2 (d + 2) p (zI q) τ = f_Houses_findHeads_25 (d + 2) p (zI 0) τ' ∧ Fr S77 σ τ' ∧ ∀ y, 0 ≤ y → y < m → τ'.1 77 y.toNat = zI y := by
    intro k
    induction k with
    | zero =>
      intro q τ hq q0 K hτ
      have : q = m := by omega
      subst this
      exact ⟨τ, by rw [f_Houses_findHeads_2_eq, gfI_of hP.s0, (hx.f77 K).e0, if_neg Int32.lt_irrefl, zI_0], K, hτ⟩
    | succ k ih =>
      intro q τ hq q0 K hτ
      have q1 : q < m := by omega
      obtain ⟨τ', a1, a2⟩ := ih (q + 1) (sI τ 77 q.toNat (zI q)) (by omega) (by omega) (K.sI _ rfl) fun y y0 y1 => by
        by_cases u : y = q
        · subst u; rw [sI_same]
        · rw [sI_slot _ _ _ _ (by omega)]; exact hτ y y0 (by omega)
      refine ⟨τ', ?_, a2⟩
      rw [f_Houses_findHeads_2_eq, gfI_of hP.s0, (hx.f77 K).e0, if_pos (by rw [zI_le (by omega) (by omega)]; exact q1), bnd_zI q0 (by omega) (by omega), ix_zI q0 (by omega), show (1 : Int32) = zI 1 from zI_lit 1, zI_add]
      exact a1
  have main : ∀ (k : Nat) (q : Int) (τ : Sg) (L : Int → Int), q + k = m → 0 ≤ q → Fr S77 σ τ → Lab m (hdE F G D q) L → (∀ y, 0 ≤ y → y < m → τ.1 77 y.toNat = zI (L y)) → ∃ τ' L', f_Houses_findHeads_25 (d + 2) p (zI q) τ = rV τ' ∧ Fr S77 σ τ' ∧ Lab m (hdE F G D m) L' ∧ ∀ y, 0 ≤ y → y < m → τ'.1 77 y.toNat = zI (L' y) := by
    intro k
    induction k with
    | zero =>
      intro q τ L hq q0 K hL hτ
      have : q = m := by omega
      subst this
      exact ⟨τ, L, by rw [f_Houses_findHeads_25_eq, gfI_of hP.s0, (hx.f77 K).e0, if_neg Int32.lt_irrefl], K, hL, hτ⟩
    | succ k ih =>
      intro q τ L hq q0 K hL hτ
      have q1 : q < m := by omega
      have h1 := hx.f77 K
      obtain ⟨s01, -, ⟨f0, f1, f2⟩, ⟨g0, g1, g2⟩, d0, d1, d2⟩ := ok.bd n6 q0 q1
      obtain ⟨τ1, L1, a1, K1, l1, t1⟩ := joinTo_sp h1 (d := d) hL hτ q0 q1 (o := F q) f0 f1
      have h2 := h1.f77 K1
      obtain ⟨τ2, L2, a2, K2, l2, t2⟩ := joinTo_sp h2 (d := d) l1 t1 q0 q1 (o := G q) g0 g1
      have h3 := h2.f77 K2
      obtain ⟨τ3, L3, a3, K3, l3, t3⟩ := joinTo_sp h3 (d := d) l2 t2 q0 q1 (o := D q) d0 d1
      obtain ⟨τ', L', b1, b2⟩ := ih (q + 1) τ3 L3 (by omega) (by omega) (((K.tr K1).tr K2).tr K3) (l3.congr fun u v => by
        unfold hdE
        constructor
        · rintro (((⟨u0, u1, z⟩ | ⟨z, rfl, rfl⟩) | ⟨z, rfl, rfl⟩) | ⟨z, rfl, rfl⟩)
          · exact ⟨u0, by omega, z⟩
          · exact ⟨q0, by omega, z, Or.inl rfl⟩
          · exact ⟨q0, by omega, z, Or.inr (Or.inl rfl)⟩
          · exact ⟨q0, by omega, z, Or.inr (Or.inr rfl)⟩
        · rintro ⟨u0, u1, v0, z⟩
          by_cases e : u = q
          · subst e
            rcases z with rfl | rfl | rfl
            · exact Or.inl (Or.inl (Or.inr ⟨v0, rfl, rfl⟩))
            · exact Or.inl (Or.inr ⟨v0, rfl, rfl⟩)
            · exact Or.inr ⟨v0, rfl, rfl⟩
          · exact Or.inl (Or.inl (Or.inl ⟨u0, by omega, v0, z⟩))) t3
      refine ⟨τ', L', ?_, b2⟩
      rw [f_Houses_findHeads_25_eq, gfI_of hP.s0, h1.e0, if_pos (by rw [zI_le (by omega) (by omega)]; exact q1), gfS_of hP.s0, ofs_4_3, ldi_of hP.s3 q0 (by omega) (by omega), (h1.2.2.2.2.1.2.2 q q0).2.2.1, a1, cV_rV, gfS_of hP.s0, ofs_4_4, ldi_of hP.s4 q0 (by omega) (by omega), (h2.2.2.2.2.1.2.2 q q0).2.2.2.1, a2, cV_rV, gfS_of hP.s0, ofs_4_5, ldi_of hP.s5 q0 (by omega) (by omega), (h3.2.2.2.2.1.2.2 q q0).2.2.2.2, a3, cV_rV, show (1 : Int32) = zI 1 from zI_lit 1, zI_add]
      exact b1
  obtain ⟨τ1, a1, K1, c1⟩ := init m.toNat 0 σ (by omega) (by decide) (Fr.rf _ _) fun y y0 y1 => by omega
  obtain ⟨τ2, L, b1, K2, hL, c2⟩ := main m.toNat 0 τ1 (fun y => y) (by omega) (by decide) K1 ((Lab.id m).congr fun u v => ⟨fun z => z.elim, fun z => by obtain ⟨z1, z2, -⟩ := z; omega⟩) c1
  refine ⟨τ2, L, ?_, K2, fun q q0 q1 => ?_, c2⟩
  · rw [f_Houses_findHeads_eq, zI_0, a1]; exact b1
  · obtain ⟨u1, u2, u3, u4⟩ := hL.2 q q0 q1
    exact ⟨u1, u2, hs_cn.mpr u3, fun y y0 y1 hy => hL.le q0 q1 y0 y1 (hs_cn.mp hy)⟩
def FitE (W H C M S g : Int → Int) (q o st : Int) : Prop := 0 ≤ o → g q ≠ -1 ∧ g o = goF W H C M st (S q) (g q)
def FitA (W H C M S F G D g : Int → Int) (q : Int) : Prop := FitE W H C M S g q (F q) 0 ∧ FitE W H C M S g q (G q) 1 ∧ FitE W H C M S g q (D q) (if S q = 0 then 3 else 2)
theorem fits_sp {r p : Nat} {n m : Int} {W H C M S T F G D : Int → Int} {σ : Sg} (hx : PX r p n m W H C M S T F G D σ) {d : Nat} {g : Int → Int} (hg : ∀ y, 0 ≤ y → y < m → σ.1 78 y.toNat = zI (g y)) (hb : ∀ y, 0 ≤ y → y < m → -1 ≤ g y ∧ g y < n) {q o st : Int} (q0 : 0 ≤ q) (q1 : q < m) (o0 : -1 ≤ o) (o1 : o < m) (hst : st = 0 ∨ st = 1 ∨ st = 2 ∨ st = 3) : ∃ b, f_Houses_fits (d + 2) r p (zI q) (zI o) (zI st) σ = rI (bz b) σ ∧ (b = true ↔ FitE W H C M S g q o st) := by
  obtain ⟨nm, ⟨n0, n6⟩, m0, m24⟩ := hx.nm
  have hP := hx.1
  have hR := hx.2.1
  obtain ⟨-, -, hc⟩ := hx.2.2.2.2.1
  have hS := fun y y0 y1 => (hx.2.2.2.2.2.bd n6 (x := y) y0 y1).1
  rw [f_Houses_fits_eq, gdK_of hP.s0, hx.has ⟨o0, o1⟩, cI_rI]
  by_cases oz : 0 ≤ o
  · obtain ⟨bq1, bq2⟩ := hb q q0 q1
    obtain ⟨bo1, bo2⟩ := hb o oz o1
    rw [decide_eq_true oz, bz_tt, if_neg (by decide), bnd_zI q0 (by omega) (by omega), ix_zI q0 (by omega), hg q q0 q1, show (-1 : Int32) = zI (-1) from rfl]
    by_cases zq : g q = -1
    · rw [if_pos (congrArg zI zq)]
      exact ⟨false, rfl, ⟨fun z => (by cases z), fun z => absurd zq (z oz).1⟩⟩
    · obtain ⟨v0, v1⟩ := goF_lt nm (k := st) (s := S q) (show 0 ≤ g q by omega) bq2
      rw [if_neg (by rw [zI_eq (by omega) (by decide)]; exact zq), bnd_zI oz (by omega) (by omega), gfS_of hP.s0, ofs_4_1, ldi_of hP.s1 q0 (by omega) (by omega), (hc q q0).1, bnd_zI q0 (by omega) (by omega), gdK_of hR.1.s0, hx.go (d := d) (k := st) (by omega) (by omega) (hS q q0 q1) (by omega) bq2, cI_rI, ix_zI oz (by omega), hg o oz o1]
      by_cases z : g o = goF W H C M st (S q) (g q)
      · rw [if_pos (congrArg zI z)]
        exact ⟨true, rfl, ⟨fun _ _ => ⟨zq, z⟩, fun _ => rfl⟩⟩
      · rw [if_neg (by rw [zI_eq (by omega) (by omega)]; exact z)]
        exact ⟨false, rfl, ⟨fun z => (by cases z), fun w => absurd (w oz).2 z⟩⟩
  · rw [decide_eq_false oz, bz_ff, if_pos (by decide)]
    exact ⟨true, rfl, ⟨fun _ z => absurd z oz, fun _ => rfl⟩⟩
