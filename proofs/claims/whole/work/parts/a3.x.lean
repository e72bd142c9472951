/-! roll -/
theorem ifE0 {a : Int} {X Y : Rs} (h : -2147483648 ≤ a ∧ a < 2147483648) : (if zI a = (0 : Int32) then X else Y) = if a = 0 then X else Y := by rw [zI_0]; exact ifEq h (by decide)
theorem RlOk.of {n m : Int} {S L F G D S' L' F' G' D' : Int → Int} (h : RlOk n m S L F G D) (e : ∀ x, 0 ≤ x → x < m → S' x = S x ∧ L' x = L x ∧ F' x = F x ∧ G' x = G x ∧ D' x = D x) : RlOk n m S' L' F' G' D' := by
  obtain ⟨m0, m24, ok⟩ := h
  refine ⟨m0, m24, fun x x0 x1 => ?_⟩
  obtain ⟨o1, o2, o3, o4, o5, o6⟩ := ok x x0 x1
  obtain ⟨e1, e2, e3, e4, e5⟩ := e x x0 x1
  rw [e1, e2, e3, e4, e5]
  refine ⟨o1, o2, o3, ?_, ?_, ?_⟩
  · rcases o4 with z | z
    · exact Or.inl z
    · exact Or.inr ⟨z.1, z.2.1, by rw [(e _ z.1 (by omega)).1]; exact z.2.2⟩
  · rcases o5 with z | z
    · exact Or.inl z
    · exact Or.inr ⟨z.1, z.2.1, by rw [(e _ z.1 (by omega)).1]; exact z.2.2⟩
  · rcases o6 with z | z
    · exact Or.inl z
    · exact Or.inr ⟨z.1, z.2.1, by rw [(e _ z.1 z.2.1).2.2.2.2]; exact z.2.2.1, by rw [(e _ z.1 z.2.1).1]; exact z.2.2.2⟩
theorem IRule.refs {r : Nat} {σ τ : Sg} (e : ∀ a, rd τ a = rd σ a) (h : IRule r σ) : IRule r τ := by
  unfold IRule RuleAt at h ⊢
  rw [e r, e (r + 1), e (r + 2), e (r + 3), e (r + 4), e 102, e 106, e 107]
  exact h
theorem IVil.refs {r : Nat} {σ τ : Sg} (e : ∀ a, rd τ a = rd σ a) (h : IVil r σ) : IVil r τ := by
  unfold IVil VOk VEq at h ⊢
  simp only [e]
  exact h
def spP (p a : Nat) : Bool := a == 42 - p || a == 42 - p + 1 || a == 42 - p + 2 || a == 42 - p + 3 || a == 42 - p + 4 || a == 42 - p + 5 || a == 42 - p + 6 || a == 42 - p + 7
def SRo2 (a k : Nat) : Bool := a == 5 || SMk a k || SMper a k || (a == 102 && (k == 7 || k == 69 || k == 70)) || (a == 142 || a == 143 || a == 144 || a == 145 || a == 146) || SHo a k
theorem Inv.spareP {σ σ' : Sg} {r p l : Nat} (h : Inv r p l σ) (F : Fr (fun a _ => spP p a) σ σ') : Inv r p l σ' := by
  have hb := h.bits
  have hr := hb.1; have hp := hb.2.1; have hl := hb.2.2
  refine ⟨h.1.fr F, h.2.1.fr F ?_, h.2.2.1.fr F ?_, h.2.2.2.1.fr F ?_, h.2.2.2.2.1.fr F ?_, h.2.2.2.2.2.1.fr F ?_, h.2.2.2.2.2.2.1.fr F (fr_rd F ?_) ?_, h.2.2.2.2.2.2.2.fr F ?_⟩
  · intro a k; simp [DTape, spP]; omega
  · intro a k; simp [DRule, spP]; omega
  · intro a k; simp [DRoll, spP]; omega
  · intro a k; simp [DLaw, spP]; omega
  · intro a k; simp [DHou, spP]; omega
  · simp [spP]; omega
  · intro a k; simp [DV, spP]; omega
  · intro a k; simp [DKep, DV, spP]; omega
theorem roll_inv {r p l : Nat} {σ τ : Sg} (h : Inv r p l σ) (hr3 : τ.2.2 4 3 = 42 - p) (hr4 : τ.2.2 4 4 = p) (hro : ∀ b j, ¬ (b = 4 ∧ (j = 3 ∨ j = 4)) → τ.2.2 b j = σ.2.2 b j) (hF : ∀ a j, (spP p a || SRo2 a j) = false → τ.1 a j = σ.1 a j) (e51 : τ.1 5 1 = zI 0) (e7 : τ.1 102 7 = zI 0) {m : Int} {S L F G D : Int → Int} (ok : RlOk (rd σ r 0) m S L F G D) (e0 : τ.1 (42 - p) 0 = zI m) (e69 : τ.1 102 69 = zI m) (hN : RoN (42 - p) m S L F G D τ) (hM : isRow 142 m S τ ∧ isRow 143 m L τ ∧ isRow 144 m F τ ∧ isRow 145 m G τ ∧ isRow 146 m D τ) (hR : RelOk (42 - p) m S F G D τ) (hH : IHou r (42 - p) τ) : Inv r (42 - p) l τ := by
  have hb := h.bits
  have hr : r = 7 ∨ r = 12 := hb.1
  have hp : p = 17 ∨ p = 25 := hb.2.1
  have hl : l = 33 ∨ l = 41 := hb.2.2
  have K : Fr (fun a j => spP p a || SRo2 a j) σ (τ.1, σ.2) := ⟨rfl, hF⟩
  obtain ⟨i1, i2, i3, i4, i5, i6, i7, i8⟩ := id h
  obtain ⟨m0, m24, okp⟩ := id ok
  have n6 : 0 ≤ rd σ r 0 ∧ rd σ r 0 ≤ 6 := h.n.2.2.1
  have r0 : rd τ r 0 = rd σ r 0 := fr_rd K (by rcases hp with rfl | rfl <;> rcases hr with rfl | rfl <;> rfl)
  have rP : rd τ (42 - p) 0 = m := rd_of (x := 0) e0 (by omega) (by omega)
  have bS : ∀ x, 0 ≤ x → x < m → rd τ (42 - p + 1) x = S x := fun x x0 x1 => rd_of (hN.1 x x0 x1) (by have := (okp x x0 x1).1; omega) (by have := (okp x x0 x1).1; omega)
  have bL : ∀ x, 0 ≤ x → x < m → rd τ (42 - p + 2) x = L x := fun x x0 x1 => rd_of (hN.2.1 x x0 x1) (by have := (okp x x0 x1).2.1; omega) (by have := (okp x x0 x1).2.2.1; omega)
  have bF : ∀ x, 0 ≤ x → x < m → rd τ (42 - p + 3) x = F x := fun x x0 x1 => rd_of (hN.2.2.1 x x0 x1) (by have := (okp x x0 x1).2.2.2.1; omega) (by have := (okp x x0 x1).2.2.2.1; omega)
  have bG : ∀ x, 0 ≤ x → x < m → rd τ (42 - p + 4) x = G x := fun x x0 x1 => rd_of (hN.2.2.2.1 x x0 x1) (by have := (okp x x0 x1).2.2.2.2.1; omega) (by have := (okp x x0 x1).2.2.2.2.1; omega)
  have bD : ∀ x, 0 ≤ x → x < m → rd τ (42 - p + 5) x = D x := fun x x0 x1 => rd_of (hN.2.2.2.2 x x0 x1) (by have := (okp x x0 x1).2.2.2.2.2; omega) (by have := (okp x x0 x1).2.2.2.2.2; omega)
  refine ⟨?_, ?_, ?_, ?_, ?_, hH, ?_, ?_⟩
  · obtain ⟨a1, a2, a3, a4, a5, a6, a7, a8, a9, a10⟩ := i1
    refine ⟨a1, by rcases hp with rfl | rfl <;> simp [isP], a3, ?_, ?_, hr3, by rw [hr4]; omega, ?_, ?_, ?_⟩
    · rw [hro _ _ (by omega)]; exact a4
    · rw [hro _ _ (by omega)]; exact a5
    · rw [hro _ _ (by omega)]; exact a8
    · rw [hro _ _ (by omega)]; exact a9
    · rw [hro _ _ (by omega), hro _ _ (by omega)]; exact a10
  · have q1 : rd τ 5 1 = 0 := rd_of (x := 1) e51 (by omega) (by omega)
    have q2 : rd τ 102 7 = 0 := rd_of (x := 7) e7 (by omega) (by omega)
    unfold ITape
    rw [q1, q2]
    exact ⟨by decide, by decide, rfl, fun j j0 j1 => by omega⟩
  · refine IRule.refs (σ := (τ.1, σ.2)) (fun _ => rfl) ?_
    refine i3.fr K fun a j e => ?_
    simp only [DRule, Bool.or_eq_true, Bool.and_eq_true, beq_iff_eq] at e
    rcases hp with rfl | rfl <;> rcases hr with rfl | rfl <;> rcases e with ((((((rfl | rfl) | rfl) | rfl) | rfl) | ⟨rfl, rfl⟩) | rfl) | rfl <;> rfl
  · unfold IRoll
    rw [r0, rP]
    refine ⟨ok.of fun x x0 x1 => ⟨bS x x0 x1, bL x x0 x1, bF x x0 x1, bG x x0 x1, bD x x0 x1⟩, rd_of (x := 69) e69 (by omega) (by omega), fun x x0 x1 => ?_, fun x y x0 x1 y0 y1 => ?_, fun y y0 y1 => ?_⟩
    · rw [bS x x0 x1, bL x x0 x1, bF x x0 x1, bG x x0 x1, bD x x0 x1]
      obtain ⟨o1, o2, o3, o4, o5, o6⟩ := okp x x0 x1
      exact ⟨rd_of (hM.1 x x0 x1) (by omega) (by omega), rd_of (hM.2.1 x x0 x1) (by omega) (by omega), rd_of (hM.2.2.1 x x0 x1) (by omega) (by omega), rd_of (hM.2.2.2.1 x x0 x1) (by omega) (by omega), rd_of (hM.2.2.2.2 x x0 x1) (by omega) (by omega)⟩
    · obtain ⟨z1, z2⟩ := hR.2 x x0 x1 y y0 y1
      refine ⟨?_, ?_⟩
      · rw [Bool.eq_iff_iff, decide_eq_true_eq, z1]
        refine ⟨fun q => ⟨q.1, by rw [bF y y0 q.1, bG y y0 q.1]; exact q.2⟩, fun q => ⟨q.1, by have := q.2; rw [bF y y0 q.1, bG y y0 q.1] at this; exact this⟩⟩
      · rw [Bool.eq_iff_iff, decide_eq_true_eq, z2, bF x x0 x1, bG x x0 x1]
        refine ⟨fun q => ⟨q.1, by rw [bF y y0 q.1, bG y y0 q.1]; exact q.2⟩, fun q => ⟨q.1, by have := q.2; rw [bF y y0 q.1, bG y y0 q.1] at this; exact this⟩⟩
    · obtain ⟨z1, z2⟩ := hR.1 y y0 y1
      refine ⟨?_, ?_⟩
      · rw [Bool.eq_iff_iff, decide_eq_true_eq, z1]
        refine ⟨fun q => ⟨q.1, by rw [bS y y0 q.1]; exact q.2⟩, fun q => ⟨q.1, by have := q.2; rw [bS y y0 q.1] at this; exact this⟩⟩
      · rw [Bool.eq_iff_iff, decide_eq_true_eq, z2]
        refine ⟨fun q => ⟨q.1, by rw [bD y y0 q.1]; exact q.2⟩, fun q => ⟨q.1, by have := q.2; rw [bD y y0 q.1] at this; exact this⟩⟩
  · refine ILaw.refs (σ := (τ.1, σ.2)) (fun _ => rfl) ?_
    refine i5.fr K fun a j e => ?_
    simp only [DLaw, Bool.or_eq_true, Bool.and_eq_true, beq_iff_eq] at e
    rcases hp with rfl | rfl <;> rcases hl with rfl | rfl <;> rcases e with ((((((((((((⟨rfl, rfl⟩ | rfl) | rfl) | rfl) | rfl) | rfl) | rfl) | ⟨rfl, rfl⟩) | rfl) | rfl) | rfl) | rfl) | rfl) <;> rfl
  · refine IVil.refs (σ := (τ.1, σ.2)) (fun _ => rfl) ?_
    refine i7.fr K r0 fun a j e => ?_
    simp only [DV, Bool.or_eq_true, Bool.and_eq_true, beq_iff_eq] at e
    rcases hp with rfl | rfl <;> rcases e with (((⟨rfl, rfl | rfl⟩ | rfl) | rfl) | rfl) | rfl <;> rfl
  · refine IKep.refs (σ := (τ.1, σ.2)) (fun _ => rfl) ?_
    refine i8.fr K fun a j e => ?_
    simp only [DKep, DV, Bool.or_eq_true, Bool.and_eq_true, beq_iff_eq] at e
    rcases hp with rfl | rfl <;> rcases e with (rfl | ⟨rfl, rfl | rfl⟩) | ((((⟨rfl, rfl | rfl⟩ | rfl) | rfl) | rfl) | rfl) <;> rfl
def S142 (a _k : Nat) : Bool := a == 142 || a == 143 || a == 144 || a == 145 || a == 146
theorem copy5_sp {m : Int} {S L F G D : Int → Int} (m0 : 0 ≤ m) (m24 : m ≤ 24) {τ : Sg} (e : τ.1 102 69 = zI m) (ro : RoNw m S L F G D τ) {d : Nat} {y : Value} : ∀ z : Value, ∃ τ', f_M_roll_108 d y z (zI 0) τ = rI (zI m) τ' ∧ Fr S142 τ τ' ∧ isRow 142 m S τ' ∧ isRow 143 m L τ' ∧ isRow 144 m F τ' ∧ isRow 145 m G τ' ∧ isRow 146 m D τ' := by
  have main : ∀ (b : Nat) (i : Int) (υ : Sg) (z : Value), i + b = m → 0 ≤ i → Fr S142 τ υ → isRow 142 i S υ → isRow 143 i L υ → isRow 144 i F υ → isRow 145 i G υ → isRow 146 i D υ → ∃ τ', f_M_roll_108 d y z (zI i) υ = rI (zI m) τ' ∧ Fr S142 τ τ' ∧ isRow 142 m S τ' ∧ isRow 143 m L τ' ∧ isRow 144 m F τ' ∧ isRow 145 m G τ' ∧ isRow 146 m D τ' := by
    intro b
    induction b with
    | zero =>
      intro i υ z hi i0 K h1 h2 h3 h4 h5
      have : i = m := by omega
      subst this
      refine ⟨υ, ?_, K, h1, h2, h3, h4, h5⟩
      rw [f_M_roll_108_eq, (K.2 102 69 rfl).trans e, if_neg Int32.lt_irrefl]
    | succ b ih =>
      intro i υ z hi i0 K h1 h2 h3 h4 h5
      have i1 : i < m := by omega
      have r1 := (K.2 147 i.toNat rfl).trans (ro.1 i i0 i1)
      have r2 := (K.2 148 i.toNat rfl).trans (ro.2.1 i i0 i1)
      have r3 := (K.2 149 i.toNat rfl).trans (ro.2.2.1 i i0 i1)
      have r4 := (K.2 150 i.toNat rfl).trans (ro.2.2.2.1 i i0 i1)
      have r5 := (K.2 151 i.toNat rfl).trans (ro.2.2.2.2 i i0 i1)
      generalize hρ : sI (sI (sI (sI (sI υ 142 i.toNat (zI (S i))) 143 i.toNat (zI (L i))) 144 i.toNat (zI (F i))) 145 i.toNat (zI (G i))) 146 i.toNat (zI (D i)) = ρ
      have st : f_M_roll_108 d y z (zI i) υ = f_M_roll_108 d y (nlg z) (zI (i + 1)) ρ := by
        rw [f_M_roll_108_eq, (K.2 102 69 rfl).trans e, ifLe (by omega) (by omega), if_pos i1]
        simp only [bnd_zI i0 (show i < (24 : Nat) by omega) (show i < 2147483648 by omega), ix_zI i0 (show i < 2147483648 by omega)]
        rw [r1, sI_row _ _ _ _ _ (show (148 : Nat) ≠ 142 by decide), r2, sI_row _ _ _ _ _ (show (149 : Nat) ≠ 143 by decide), sI_row _ _ _ _ _ (show (149 : Nat) ≠ 142 by decide), r3, sI_row _ _ _ _ _ (show (150 : Nat) ≠ 144 by decide), sI_row _ _ _ _ _ (show (150 : Nat) ≠ 143 by decide), sI_row _ _ _ _ _ (show (150 : Nat) ≠ 142 by decide), r4, sI_row _ _ _ _ _ (show (151 : Nat) ≠ 145 by decide), sI_row _ _ _ _ _ (show (151 : Nat) ≠ 144 by decide), sI_row _ _ _ _ _ (show (151 : Nat) ≠ 143 by decide), sI_row _ _ _ _ _ (show (151 : Nat) ≠ 142 by decide), r5, hρ, show (1 : Int32) = zI 1 from zI_lit 1, zI_add]
      have Kρ : Fr S142 υ ρ := by
        rw [← hρ]
        exact (((((Fr.rf _ υ).sI _ rfl).sI _ rfl).sI _ rfl).sI _ rfl).sI _ rfl
      have put : ∀ (a : Nat) (X : Int → Int), isRow a i X υ → ρ.1 a i.toNat = zI (X i) → (∀ k : Nat, k ≠ i.toNat → ρ.1 a k = υ.1 a k) → isRow a (i + 1) X ρ := fun a X hX h0 hk x x0 x1 => by
        by_cases q : x = i
        · subst q; exact h0
        · rw [hk _ (by omega)]; exact hX x x0 (by omega)
      have ok : ∀ a k, k ≠ i.toNat → ρ.1 a k = υ.1 a k := fun a k q => by
        rw [← hρ, sI_slot _ _ _ _ q, sI_slot _ _ _ _ q, sI_slot _ _ _ _ q, sI_slot _ _ _ _ q, sI_slot _ _ _ _ q]
      rw [st]
      refine ih (i + 1) ρ _ (by omega) (by omega) (K.tr Kρ) (put _ _ h1 ?_ (ok _)) (put _ _ h2 ?_ (ok _)) (put _ _ h3 ?_ (ok _)) (put _ _ h4 ?_ (ok _)) (put _ _ h5 ?_ (ok _))
      · rw [← hρ, sI_row _ _ _ _ _ (by decide), sI_row _ _ _ _ _ (by decide), sI_row _ _ _ _ _ (by decide), sI_row _ _ _ _ _ (by decide), sI_same]
      · rw [← hρ, sI_row _ _ _ _ _ (by decide), sI_row _ _ _ _ _ (by decide), sI_row _ _ _ _ _ (by decide), sI_same]
      · rw [← hρ, sI_row _ _ _ _ _ (by decide), sI_row _ _ _ _ _ (by decide), sI_same]
      · rw [← hρ, sI_row _ _ _ _ _ (by decide), sI_same]
      · rw [← hρ, sI_same]
  intro z
  exact main m.toNat 0 τ z (by omega) (by decide) (Fr.rf _ _) (fun x x0 x1 => by omega) (fun x x0 x1 => by omega) (fun x x0 x1 => by omega) (fun x x0 x1 => by omega) fun x x0 x1 => by omega
