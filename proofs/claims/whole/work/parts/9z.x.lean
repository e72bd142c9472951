/-! a roll: a person, in both: joined -/
theorem isRow.up {a : Nat} {m s : Int} {S : Int → Int} {σ σ' : Sg} (h : isRow a m S σ) (hm : σ'.1 a m.toNat = zI s) (hx : ∀ x : Int, 0 ≤ x → x < m → σ'.1 a x.toNat = σ.1 a x.toNat) : isRow a (m + 1) (mup S m s) σ' := fun x x0 x1 => by
  by_cases q : x = m
  · subst q; rw [hm, mup_same]
  · rw [mup_ne q, hx x x0 (by omega)]; exact h x x0 (by omega)
def SRper (P a k : Nat) : Bool := SRn P a k || (a == P + 1 || a == P + 2 || a == P + 3 || a == P + 4 || a == P + 5)
def SMper (a k : Nat) : Bool := SMn a k || (a == 147 || a == 148 || a == 149 || a == 150 || a == 151) || (a == 102 && k == 70)
theorem personBoth {n pl m names : Int} {T S L F G D : Int → Int} {P : Nat} (hP : isP P) (hx : TX n T) (p0 : 0 ≤ pl) (p1 : pl ≤ n) (k0 : 0 ≤ names) (k6 : names ≤ 6) (ok : RlOk names m S L F G D) (d d2 : Nat) : ∃ v s t f1 g1 d1 pl' : Int, -10000 < v ∧ v ≤ 0 ∧ (v = 0 → m < 24 ∧ (s = 0 ∨ s = 1) ∧ (-1 ≤ t ∧ t < names) ∧ (f1 = -1 ∨ 0 ≤ f1 ∧ f1 < m ∧ S f1 = 0) ∧ (g1 = -1 ∨ 0 ≤ g1 ∧ g1 < m ∧ S g1 = 1) ∧ (d1 = -1 ∨ 0 ≤ d1 ∧ d1 < m ∧ S d1 ≠ s ∧ D d1 = -1) ∧ pl < pl' ∧ pl' ≤ n) ∧
    (∀ σ, CP n T pl σ → σ.1 P 0 = zI m → RoN P m S L F G D σ → ∃ σ', f_Roll_readPerson (d + 5) P (zI names) σ = rI (zI v) σ' ∧ Fr (SRper P) σ σ' ∧ (v = 0 → σ'.1 5 4 = zI pl' ∧ RoN P (m + 1) (mup S m s) (mup L m t) (mup F m f1) (mup G m g1) (wD D m d1) σ')) ∧
    (∀ τ, MP n T pl τ → τ.1 102 70 = zI m → τ.1 102 5 = zI names → RoNw m S L F G D τ → ∃ τ', f_M_readsPerson (d2 + 6) τ = rI (bz (decide (v = 0))) τ' ∧ Fr SMper τ τ' ∧ (v < 0 → τ'.1 102 10 = zI v) ∧ (v = 0 → τ'.1 102 8 = zI pl' ∧ τ'.1 102 70 = zI (m + 1) ∧ RoNw (m + 1) (mup S m s) (mup L m t) (mup F m f1) (mup G m g1) (wD D m d1) τ')) := by
  have n260 := hx.2.1
  obtain ⟨m0, m24, okp⟩ := id ok
  obtain ⟨c0, c1, c2⟩ := hx.ch p0
  have rN : ∀ σ, CP n T pl σ → f_Roll_readPerson (d + 5) P (zI names) σ = if chA n T pl = 77 ∨ chA n T pl = 70 then cHead (d + 4) P (zI names) (zI (chA n T pl)) σ else rI (zI (-1000 - pl)) σ := fun σ h => by
    rw [cPerson_eq, h.now hx p0 p1, cI_rI, show (77 : Int32) = zI 77 from zI_lit 77, show (70 : Int32) = zI 70 from zI_lit 70, ifEq (by omega) (by decide), ifEq (by omega) (by decide)]
    by_cases q : chA n T pl = 77
    · rw [if_pos q, if_pos (Or.inl q)]
    · rw [if_neg q]
      by_cases q2 : chA n T pl = 70
      · rw [if_pos q2, if_pos (Or.inr q2)]
      · rw [if_neg q2, if_neg (by omega), show (1 : Int32) = zI 1 from zI_lit 1, tfaultZ h.2, cI_rI]; rfl
  have rM : ∀ τ, MP n T pl τ → f_M_readsPerson (d2 + 6) τ = if chA n T pl = 77 ∨ chA n T pl = 70 then mHead (d2 + 5) (zI (chA n T pl)) τ else rI (zI 0) (sI τ 102 10 (zI (-1000 - pl))) := fun τ h => by
    rw [mPerson_eq, h.here hx p0 p1, cI_rI, show (77 : Int32) = zI 77 from zI_lit 77, show (70 : Int32) = zI 70 from zI_lit 70, ifEq (by omega) (by decide), ifEq (by omega) (by decide)]
    by_cases q : chA n T pl = 77
    · rw [if_pos q, if_pos (Or.inl q)]
    · rw [if_neg q]
      by_cases q2 : chA n T pl = 70
      · rw [if_pos q2, if_pos (Or.inr q2)]
      · rw [if_neg q2, if_neg (by omega), h.2.1, show (1 : Int32) = zI 1 from zI_lit 1, wrongAt_sp, cI_rI, rZ_z0]; rfl
  by_cases q : chA n T pl = 77 ∨ chA n T pl = 70
  · have p2 : pl + 1 ≤ n := by have := c2 (by omega); omega
    generalize hsv : (if chA n T pl = 77 then 0 else 1 : Int) = s
    have sv : s = 0 ∨ s = 1 := by subst hsv; split <;> omega
    have hN : ∀ σ, σ.1 P 0 = zI m → CP n T pl σ → cHead (d + 4) P (zI names) (zI (chA n T pl)) σ = if m = 24 then rI (zI (-4000 - pl)) σ else cSet (d + 4) P (zI names) (P + 1) (zI m) (zI s) σ := fun σ e h => by
      unfold cHead
      rw [gfI_of hP.s0, e, show (24 : Int32) = zI 24 from zI_lit 24, ifEq (by omega) (by decide), gfS_of hP.s0, gfI_of hP.s0, e, ofs_4_1, show (77 : Int32) = zI 77 from zI_lit 77, ifEq (by omega) (by decide)]
      by_cases w : m = 24
      · rw [if_pos w, if_pos w, show (4 : Int32) = zI 4 from zI_lit 4, tfaultZ h.2, cI_rI]; rfl
      · rw [if_neg w, if_neg w]
        by_cases w2 : chA n T pl = 77
        · rw [if_pos w2] at hsv ⊢; subst hsv; rw [zI_0]
        · rw [if_neg w2] at hsv ⊢; subst hsv; rw [show (1 : Int32) = zI 1 from zI_lit 1]
    have hM : ∀ τ, τ.1 102 70 = zI m → MP n T pl τ → mHead (d2 + 5) (zI (chA n T pl)) τ = if m = 24 then rI (zI 0) (sI τ 102 10 (zI (-4000 - pl))) else mSet (d2 + 5) (zI s) τ := fun τ e h => by
      unfold mHead
      rw [e, show (24 : Int32) = zI 24 from zI_lit 24, ifEq (by omega) (by decide), show (77 : Int32) = zI 77 from zI_lit 77, ifEq (by omega) (by decide)]
      by_cases w : m = 24
      · rw [if_pos w, if_pos w, h.2.1, show (4 : Int32) = zI 4 from zI_lit 4, wrongAt_sp, cI_rI, rZ_z0]; rfl
      · rw [if_neg w, if_neg w]
        by_cases w2 : chA n T pl = 77
        · rw [if_pos w2] at hsv ⊢; subst hsv; rw [zI_0]
        · rw [if_neg w2] at hsv ⊢; subst hsv; rw [show (1 : Int32) = zI 1 from zI_lit 1]
    by_cases w : m = 24
    · refine ⟨-4000 - pl, 0, 0, 0, 0, 0, 0, by omega, by omega, fun z => by omega, fun σ h e ro => ⟨σ, by rw [rN σ h, if_pos q, hN σ e h, if_pos w], Fr.rf _ _, fun z => by omega⟩, fun τ h e ek ro => ⟨_, by rw [rM τ h, if_pos q, hM τ e h, if_pos w, bzn (by omega)], (Fr.rf _ τ).sI (a := 102) (k := 10) (zI (-4000 - pl)) rfl, fun _ => sI_same _ _ _ _, fun z => by omega⟩⟩
    · have m24' : m < 24 := by omega
      have sN : ∀ {σ σ' : Sg}, Fr (SRs P m.toNat) σ σ' → Fr (SRper P) σ σ' := fun F => F.mono fun a k e => by
        simp only [SRper, SRs, SRn, Bool.or_eq_false_iff, Bool.and_eq_false_iff] at e ⊢
        exact ⟨Or.inl ⟨⟨⟨⟨e.2.1.1.1.1, e.2.1.1.1.2⟩, e.2.1.1.2⟩, e.2.1.2⟩, e.2.2⟩, e.1.2⟩
      have sM : ∀ {σ σ' : Sg}, Fr (SMs m.toNat) σ σ' → Fr SMper σ σ' := fun F => F.mono fun a k e => by
        simp only [SMper, SMs, SMn, Bool.or_eq_false_iff, Bool.and_eq_false_iff] at e ⊢
        refine ⟨Or.inl ⟨⟨⟨⟨e.1.2.1.1.1.1, e.1.2.1.1.1.2⟩, e.1.2.1.1.2⟩, e.1.2.1.2⟩, e.1.2.2⟩, ?_⟩
        rcases e.1.1 with z | z
        · exact Or.inl z
        · exact Or.inr ⟨z.1.1, z.1.2⟩
      by_cases w2 : names ≤ tolA n T (pl + 1)
      · refine ⟨-6000 - (pl + 1), 0, 0, 0, 0, 0, 0, by omega, by omega, fun z => by omega, fun σ h e ro => ?_, fun τ h e ek ro => ?_⟩
        · obtain ⟨σ', F1, a1, -⟩ := cSet_sp (s := s) hP hx p0 p2 m0 m24' k0 k6 h e (d := d + 3)
          exact ⟨σ', by rw [rN σ h, if_pos q, hN σ e h, if_neg w]; exact a1 w2, sN F1, fun z => by omega⟩
        · obtain ⟨τ', F1, a1, -⟩ := mSet_sp (s := s) hx p0 p2 m0 m24' k0 k6 h e ek (d := d2 + 4)
          exact ⟨τ', by rw [rM τ h, if_pos q, hM τ e h, if_neg w, bzn (by omega)]; exact (a1 w2).1, sM F1, fun _ => (a1 w2).2, fun z => by omega⟩
      · have w2 : tolA n T (pl + 1) < names := by omega
        have tb : -1 ≤ tolA n T (pl + 1) := by unfold tolA; split <;> omega
        have tp : pl + 1 ≤ tolP n T (pl + 1) ∧ tolP n T (pl + 1) ≤ n := by
          unfold tolP
          by_cases z : 97 ≤ chA n T (pl + 1) ∧ chA n T (pl + 1) ≤ 102
          · rw [if_pos z]; have := (hx.ch (show 0 ≤ pl + 1 by omega)).2.2 (by omega); omega
          · rw [if_neg z]; omega
        have hS : ∀ x, 0 ≤ x → x < m → S x = 0 ∨ S x = 1 := fun x x0 x1 => (okp x x0 x1).1
        have hD : ∀ x, 0 ≤ x → x < m → -1 ≤ D x ∧ D x < m := fun x x0 x1 => by have := (okp x x0 x1).2.2.2.2; omega
        obtain ⟨v1, f1, g1, q1, b1, b2, b3, hN1, hM1⟩ := parentsBoth hP hx (show 0 ≤ tolP n T (pl + 1) by omega) tp.2 m0 m24' hS d d2
        have aN : ∀ σ, CP n T pl σ → σ.1 P 0 = zI m → RoN P m S L F G D σ → ∃ σ', Fr (SRper P) σ σ' ∧ (f_Roll_readPerson (d + 5) P (zI names) σ = if v1 = 0 then (cI (f_Roll_readSpouse (d + 4) P σ') fun v35 σ34 => rI v35 σ34) else rI (zI v1) σ') ∧ (v1 = 0 → CP n T q1 σ' ∧ σ'.1 P 0 = zI m ∧ RoN P (m + 1) (mup S m s) (mup L m (tolA n T (pl + 1))) (mup F m f1) (mup G m g1) (mup D m (-1)) σ') := fun σ h e ro => by
          obtain ⟨σ1, F1, -, a1⟩ := cSet_sp (s := s) hP hx p0 p2 m0 m24' k0 k6 h e (d := d + 3)
          obtain ⟨a1, a2, a3, a4, a5, a6, a7⟩ := a1 w2
          have h1 : CP n T (tolP n T (pl + 1)) σ1 := h.fr F1 (by rcases hP with rfl | rfl <;> simp [SRs]) (by rcases hP with rfl | rfl <;> simp [SRs]) (fun k => by rcases hP with rfl | rfl <;> simp [SRs]) a2
          have e1 : σ1.1 P 0 = zI m := (F1.2 _ _ (by rcases hP with rfl | rfl <;> simp [SRs])).trans e
          have old : ∀ a, (a = P + 1 ∨ a = P + 2 ∨ a = P + 3 ∨ a = P + 4 ∨ a = P + 5) → ∀ x : Int, 0 ≤ x → x < m → σ1.1 a x.toNat = σ.1 a x.toNat := fun a q x x0 x1 => F1.2 _ _ (by
            have : (x.toNat == m.toNat) = false := by simp; omega
            have z5 : (a == 5) = false := by rcases hP with rfl | rfl <;> rcases q with rfl | rfl | rfl | rfl | rfl <;> rfl
            simp [SRs, this, z5])
          obtain ⟨σ2, d1, d2', d3⟩ := hN1 σ1 h1 e1 (fun x x0 x1 => (old _ (by simp) x x0 x1).trans (ro.1 x x0 x1)) a5 a6
          have F2 : Fr (SRper P) σ1 σ2 := d2'.mono fun a k e => by
            simp only [SRper, SRpa, Bool.or_eq_false_iff, Bool.and_eq_false_iff] at e ⊢
            exact ⟨e.1, Or.inl ⟨e.2.1.1.2, e.2.1.2⟩⟩
          refine ⟨σ2, (sN F1).tr F2, ?_, fun z => ?_⟩
          · rw [rN σ h, if_pos q, hN σ e h, if_neg w]
            have a1 : cSet (d + 4) P (zI names) (P + 1) (zI m) (zI s) σ = cKin (d + 4) P σ1 := a1
            rw [a1]
            unfold cKin
            rw [gdK_of hP.s0, d1, cI_rI, ifV b2 b1, gdK_of hP.s0]
          · obtain ⟨g1', g2', g3'⟩ := d3 z
            have keep : ∀ a k, (a = P + 1 ∨ a = P + 2 ∨ a = P + 5 ∨ a = P ∧ k = 0 ∨ (a = P + 3 ∨ a = P + 4) ∧ k ≠ m.toNat) → σ2.1 a k = σ1.1 a k := fun a k q => d2'.2 a k (by
              rcases hP with rfl | rfl <;> rcases q with rfl | rfl | rfl | ⟨rfl, rfl⟩ | ⟨rfl | rfl, q⟩ <;> simp [SRpa, SRn, *])
            refine ⟨h1.fr d2' (by rcases hP with rfl | rfl <;> simp [SRpa, SRn]) (by rcases hP with rfl | rfl <;> simp [SRpa, SRn]) (fun k => by rcases hP with rfl | rfl <;> simp [SRpa, SRn]) g3', (keep P 0 (by simp)).trans e1, ro.1.up ((keep _ _ (by simp)).trans a3) fun x x0 x1 => (keep _ _ (by simp)).trans (old _ (by simp) x x0 x1), ro.2.1.up ((keep _ _ (by simp)).trans a4) fun x x0 x1 => (keep _ _ (by simp)).trans (old _ (by simp) x x0 x1), ro.2.2.1.up g1' fun x x0 x1 => (keep _ _ (by simp; omega)).trans (old _ (by simp) x x0 x1), ro.2.2.2.1.up g2' fun x x0 x1 => (keep _ _ (by simp; omega)).trans (old _ (by simp) x x0 x1), ro.2.2.2.2.up ((keep _ _ (by simp)).trans a7) fun x x0 x1 => (keep _ _ (by simp)).trans (old _ (by simp) x x0 x1)⟩
        have aM : ∀ τ, MP n T pl τ → τ.1 102 70 = zI m → τ.1 102 5 = zI names → RoNw m S L F G D τ → ∃ τ', Fr SMper τ τ' ∧ (f_M_readsPerson (d2 + 6) τ = if v1 = 0 then mWed (d2 + 5) τ' else rI (zI 0) τ') ∧ (v1 < 0 → τ'.1 102 10 = zI v1) ∧ (v1 = 0 → MP n T q1 τ' ∧ τ'.1 102 70 = zI m ∧ RoNw (m + 1) (mup S m s) (mup L m (tolA n T (pl + 1))) (mup F m f1) (mup G m g1) (mup D m (-1)) τ') := fun τ h e ek ro => by
          obtain ⟨τ1, F1, -, a1⟩ := mSet_sp (s := s) hx p0 p2 m0 m24' k0 k6 h e ek (d := d2 + 4)
          obtain ⟨a1, a2, a3, a4, a5, a6, a7⟩ := a1 w2
          have h1 : MP n T (tolP n T (pl + 1)) τ1 := h.fr F1 (by simp [SMs]) (fun k => by simp [SMs]) a2
          have e1 : τ1.1 102 70 = zI m := (F1.2 _ _ (by simp [SMs])).trans e
          have old : ∀ a, (a = 147 ∨ a = 148 ∨ a = 149 ∨ a = 150 ∨ a = 151) → ∀ x : Int, 0 ≤ x → x < m → τ1.1 a x.toNat = τ.1 a x.toNat := fun a q x x0 x1 => F1.2 _ _ (by
            have : (x.toNat == m.toNat) = false := by simp; omega
            have z5 : (a == 102) = false := by rcases q with rfl | rfl | rfl | rfl | rfl <;> rfl
            simp [SMs, this, z5])
          obtain ⟨τ2, d1, d2', d4, d3⟩ := hM1 τ1 h1 e1 (fun x x0 x1 => (old _ (by simp) x x0 x1).trans (ro.1 x x0 x1)) a5 a6
          have F2 : Fr SMper τ1 τ2 := d2'.mono fun a k e => by
            simp only [SMper, SMpa, Bool.or_eq_false_iff, Bool.and_eq_false_iff] at e ⊢
            exact ⟨e.1.1, Or.inl ⟨e.1.2.1.1.2, e.1.2.1.2⟩⟩
          refine ⟨τ2, (sM F1).tr F2, ?_, d4, fun z => ?_⟩
          · rw [rM τ h, if_pos q, hM τ e h, if_neg w]
            have a1 : mSet (d2 + 5) (zI s) τ = mPar (d2 + 5) (mWed (d2 + 5)) τ1 := a1
            rw [a1, d1]
          · obtain ⟨g1', g2', g3'⟩ := d3 z
            have keep : ∀ a k, (a = 147 ∨ a = 148 ∨ a = 151 ∨ a = 102 ∧ k = 70 ∨ (a = 149 ∨ a = 150) ∧ k ≠ m.toNat) → τ2.1 a k = τ1.1 a k := fun a k q => d2'.2 a k (by
              rcases q with rfl | rfl | rfl | ⟨rfl, rfl⟩ | ⟨rfl | rfl, q⟩ <;> simp [SMpa, SMn, *])
            refine ⟨h1.fr d2' (by simp [SMpa, SMn]) (fun k => by simp [SMpa, SMn]) g3', (keep 102 70 (by simp)).trans e1, ro.1.up ((keep _ _ (by simp)).trans a3) fun x x0 x1 => (keep _ _ (by simp)).trans (old _ (by simp) x x0 x1), ro.2.1.up ((keep _ _ (by simp)).trans a4) fun x x0 x1 => (keep _ _ (by simp)).trans (old _ (by simp) x x0 x1), ro.2.2.1.up g1' fun x x0 x1 => (keep _ _ (by simp; omega)).trans (old _ (by simp) x x0 x1), ro.2.2.2.1.up g2' fun x x0 x1 => (keep _ _ (by simp; omega)).trans (old _ (by simp) x x0 x1), ro.2.2.2.2.up ((keep _ _ (by simp)).trans a7) fun x x0 x1 => (keep _ _ (by simp)).trans (old _ (by simp) x x0 x1)⟩
        by_cases v0 : v1 = 0
        · subst v0
          obtain ⟨fb, gb', l0, l1⟩ := b3 rfl
          obtain ⟨v2, d1, q2, e1, e2, e3, hN2, hM2⟩ := spouseBoth hP hx (show 0 ≤ q1 by omega) l1 m0 m24' sv hS hD (d + 1) d2
          refine ⟨v2, s, tolA n T (pl + 1), f1, g1, d1, q2, e1, e2, fun z => ⟨m24', sv, ⟨tb, w2⟩, fb, gb', (e3 z).1, by have := (e3 z).2; omega, (e3 z).2.2⟩, fun σ h e ro => ?_, fun τ h e ek ro => ?_⟩
          · obtain ⟨σ1, F1, a1, a2⟩ := aN σ h e ro
            obtain ⟨h1, z0, r1, r2, r3, r4, r5⟩ := a2 rfl
            obtain ⟨σ2, x1, x2, x3⟩ := hN2 σ1 h1 z0 r1 r5
            have x1 : f_Roll_readSpouse (d + 4) P σ1 = rI (zI v2) σ2 := x1
            refine ⟨σ2, by rw [a1, if_pos rfl, x1, cI_rI], F1.tr (x2.mono fun a k e => ?_), fun z => ?_⟩
            · simp only [SRper, SRwd, Bool.or_eq_false_iff] at e ⊢
              exact ⟨e.1, e.2.2⟩
            · have keep : ∀ a, (a = P + 1 ∨ a = P + 2 ∨ a = P + 3 ∨ a = P + 4) → ∀ k, σ2.1 a k = σ1.1 a k := fun a q k => x2.2 a k (by
                rcases hP with rfl | rfl <;> rcases q with rfl | rfl | rfl | rfl <;> rfl)
              exact ⟨(x3 z).2, fun x x0 x1 => (keep _ (by simp) _).trans (r1 x x0 x1), fun x x0 x1 => (keep _ (by simp) _).trans (r2 x x0 x1), fun x x0 x1 => (keep _ (by simp) _).trans (r3 x x0 x1), fun x x0 x1 => (keep _ (by simp) _).trans (r4 x x0 x1), (x3 z).1⟩
          · obtain ⟨τ1, F1, a1, -, a2⟩ := aM τ h e ek ro
            obtain ⟨h1, z0, r1, r2, r3, r4, r5⟩ := a2 rfl
            obtain ⟨τ2, x1, x2, x4, x3⟩ := hM2 τ1 h1 z0 r1 r5
            refine ⟨τ2, by rw [a1, if_pos rfl, x1], F1.tr (x2.mono fun a k e => ?_), x4, fun z => ?_⟩
            · simp only [SMper, SMwd, Bool.or_eq_false_iff] at e ⊢
              exact ⟨⟨e.1.1, e.1.2.2⟩, e.2⟩
            · have keep : ∀ a, (a = 147 ∨ a = 148 ∨ a = 149 ∨ a = 150) → ∀ k, τ2.1 a k = τ1.1 a k := fun a q k => x2.2 a k (by
                rcases q with rfl | rfl | rfl | rfl <;> rfl)
              exact ⟨(x3 z).2.1, (x3 z).2.2, fun x x0 x1 => (keep _ (by simp) _).trans (r1 x x0 x1), fun x x0 x1 => (keep _ (by simp) _).trans (r2 x x0 x1), fun x x0 x1 => (keep _ (by simp) _).trans (r3 x x0 x1), fun x x0 x1 => (keep _ (by simp) _).trans (r4 x x0 x1), (x3 z).1⟩
        · refine ⟨v1, 0, 0, 0, 0, 0, 0, b1, b2, fun z => absurd z v0, fun σ h e ro => ?_, fun τ h e ek ro => ?_⟩
          · obtain ⟨σ1, F1, a1, -⟩ := aN σ h e ro
            exact ⟨σ1, by rw [a1, if_neg v0], F1, fun z => absurd z v0⟩
          · obtain ⟨τ1, F1, a1, a2, -⟩ := aM τ h e ek ro
            exact ⟨τ1, by rw [a1, if_neg v0, bzn (by omega)], F1, a2, fun z => absurd z v0⟩
  · refine ⟨-1000 - pl, 0, 0, 0, 0, 0, 0, by omega, by omega, fun z => by omega, fun σ h e ro => ⟨σ, by rw [rN σ h, if_neg q], Fr.rf _ _, fun z => by omega⟩, fun τ h e ek ro => ⟨_, by rw [rM τ h, if_neg q, bzn (by omega)], (Fr.rf _ τ).sI (a := 102) (k := 10) (zI (-1000 - pl)) rfl, fun _ => sI_same _ _ _ _, fun z => by omega⟩⟩
theorem RlOk.next {names m s t f1 g1 d1 : Int} {S L F G D : Int → Int} (ok : RlOk names m S L F G D) (h : m < 24 ∧ (s = 0 ∨ s = 1) ∧ (-1 ≤ t ∧ t < names) ∧ (f1 = -1 ∨ 0 ≤ f1 ∧ f1 < m ∧ S f1 = 0) ∧ (g1 = -1 ∨ 0 ≤ g1 ∧ g1 < m ∧ S g1 = 1) ∧ (d1 = -1 ∨ 0 ≤ d1 ∧ d1 < m ∧ S d1 ≠ s ∧ D d1 = -1)) : RlOk names (m + 1) (mup S m s) (mup L m t) (mup F m f1) (mup G m g1) (wD D m d1) := by
  obtain ⟨m0, m24, okp⟩ := ok
  obtain ⟨h1, h2, h3, h4, h5, h6⟩ := h
  refine ⟨by omega, by omega, fun x x0 x1 => ?_⟩
  by_cases q : x = m
  · subst q
    rw [mup_same, mup_same, mup_same, mup_same]
    refine ⟨h2, h3.1, h3.2, ?_, ?_, ?_⟩
    · rcases h4 with h4 | h4
      · exact Or.inl h4
      · exact Or.inr ⟨h4.1, h4.2.1, by rw [mup_ne (by omega)]; exact h4.2.2⟩
    · rcases h5 with h5 | h5
      · exact Or.inl h5
      · exact Or.inr ⟨h5.1, h5.2.1, by rw [mup_ne (by omega)]; exact h5.2.2⟩
    · rcases h6 with h6 | h6
      · exact Or.inl (by unfold wD; rw [if_pos h6, mup_same])
      · have e1 : wD D x d1 x = d1 := by unfold wD; rw [if_neg (by omega), mup_ne (by omega), mup_same]
        have e2 : wD D x d1 d1 = x := by unfold wD; rw [if_neg (by omega), mup_same]
        exact Or.inr ⟨by rw [e1]; exact h6.1, by rw [e1]; omega, by rw [e1, e2], by rw [e1, mup_ne (by omega)]; exact h6.2.2.1⟩
  · obtain ⟨o1, o2, o3, o4, o5, o6⟩ := okp x x0 (by omega)
    rw [mup_ne q, mup_ne q, mup_ne q, mup_ne q]
    refine ⟨o1, o2, o3, ?_, ?_, ?_⟩
    · rcases o4 with o4 | o4
      · exact Or.inl o4
      · exact Or.inr ⟨o4.1, o4.2.1, by rw [mup_ne (by omega)]; exact o4.2.2⟩
    · rcases o5 with o5 | o5
      · exact Or.inl o5
      · exact Or.inr ⟨o5.1, o5.2.1, by rw [mup_ne (by omega)]; exact o5.2.2⟩
    · rcases h6 with h6 | h6
      · have e : ∀ y, y ≠ m → wD D m d1 y = D y := fun y z => by unfold wD; rw [if_pos h6, mup_ne z]
        rw [e x q]
        rcases o6 with o6 | o6
        · exact Or.inl o6
        · exact Or.inr ⟨o6.1, by omega, by rw [e _ (by omega)]; exact o6.2.2.1, by rw [mup_ne (by omega)]; exact o6.2.2.2⟩
      · have e0 : ∀ y, y ≠ m → y ≠ d1 → wD D m d1 y = D y := fun y z z2 => by unfold wD; rw [if_neg (by omega), mup_ne z2, mup_ne z]
        have e1 : wD D m d1 m = d1 := by unfold wD; rw [if_neg (by omega), mup_ne (by omega), mup_same]
        have e2 : wD D m d1 d1 = m := by unfold wD; rw [if_neg (by omega), mup_same]
        by_cases z : x = d1
        · subst z
          exact Or.inr ⟨by rw [e2]; omega, by rw [e2]; omega, by rw [e2, e1], by rw [e2, mup_same]; exact fun z => h6.2.2.1 z.symm⟩
        · rw [e0 x q z]
          rcases o6 with o6 | o6
          · exact Or.inl o6
          · have : D x ≠ d1 := fun y => by
              have u := o6.2.2.1
              rw [y] at u
              have := h6.2.2.2
              omega
            exact Or.inr ⟨o6.1, by omega, by rw [e0 _ (by omega) this]; exact o6.2.2.1, by rw [mup_ne (by omega)]; exact o6.2.2.2⟩
