/-! law: the state behind it -/
theorem begins2_sp {υ : Sg} {d : Nat} {n : Int} : ∃ υ1, f_M_beginsText (d + 1) (zI 0) (zI n) υ = rV υ1 ∧ Fr SMk υ υ1 ∧ υ1.1 102 8 = zI 0 ∧ υ1.1 102 9 = zI n ∧ υ1.1 102 13 = zI 0 ∧ υ1.1 102 15 = zI 0 := by
  refine ⟨_, f_M_beginsText_eq d (zI 0) (zI n) υ, ((((Fr.rf _ _).sI _ rfl).sI _ rfl).sI _ rfl).sI _ rfl, rfl, ?_, zI_0, zI_0⟩
  show zI 0 + zI n = zI n
  rw [zI_add, Int.zero_add]
theorem CEq_b {c w m : Int} (h : CEq c w m) : 0 ≤ c ∧ c < 256 ∧ 0 ≤ m ∧ m < 16777216 ∧ (c = 35 ∨ c = 97 ∨ c = 38 ∨ c = 124 → 0 ≤ w ∧ w < 1048576) := by
  unfold CEq at h
  rcases h with h | h | h | h | h | h | h | h | h | h | h | h | h <;> omega
theorem CEq_w {c w m w' : Int} (h : CEq c w m) (e : c = 35 ∨ c = 97 ∨ c = 38 ∨ c = 124 → w' = w) : CEq c w' m := by
  unfold CEq at h
  rcases h with h | h | h | h | h | h | h | h | h | h | h | h | h
  · rw [e (Or.inl h.1)]; exact Or.inl h
  · rw [e (Or.inr (Or.inl h.1))]; exact Or.inr (Or.inl h)
  · exact Or.inr (Or.inr (Or.inl h))
  · exact Or.inr (Or.inr (Or.inr (Or.inl h)))
  · exact Or.inr (Or.inr (Or.inr (Or.inr (Or.inl h))))
  · exact Or.inr (Or.inr (Or.inr (Or.inr (Or.inr (Or.inl h)))))
  · exact Or.inr (Or.inr (Or.inr (Or.inr (Or.inr (Or.inr (Or.inl h))))))
  · exact Or.inr (Or.inr (Or.inr (Or.inr (Or.inr (Or.inr (Or.inr (Or.inl h)))))))
  · exact Or.inr (Or.inr (Or.inr (Or.inr (Or.inr (Or.inr (Or.inr (Or.inr (Or.inl h))))))))
  · exact Or.inr (Or.inr (Or.inr (Or.inr (Or.inr (Or.inr (Or.inr (Or.inr (Or.inr (Or.inl h)))))))))
  · exact Or.inr (Or.inr (Or.inr (Or.inr (Or.inr (Or.inr (Or.inr (Or.inr (Or.inr (Or.inr (Or.inl h))))))))))
  · rw [e (Or.inr (Or.inr (Or.inl h.1)))]; exact Or.inr (Or.inr (Or.inr (Or.inr (Or.inr (Or.inr (Or.inr (Or.inr (Or.inr (Or.inr (Or.inr (Or.inl h)))))))))))
  · rw [e (Or.inr (Or.inr (Or.inr h.1)))]; exact Or.inr (Or.inr (Or.inr (Or.inr (Or.inr (Or.inr (Or.inr (Or.inr (Or.inr (Or.inr (Or.inr (Or.inr h)))))))))))
theorem ILaw.mk' {Q : Nat} {τ : Sg} {m s : Int} {K : KK} {N A B C : Int → Int} (m0 : 0 ≤ m) (m16 : m ≤ 16) (s240 : s ≤ 240) (ok : KOk s K) (co : ClOk m s K N A B C) (e0 : τ.1 Q 0 = zI m) (e16 : τ.1 102 16 = zI m) (rn : RwN Q m N A B C τ) (rc : ∀ j, 0 ≤ j → j < s → τ.1 (Q + 5) j.toNat = zI (K.1 j) ∧ τ.1 (Q + 6) j.toNat = zI (K.2.1 j)) (r5 : isRow 115 s K.2.2 τ) (r6 : isRow 116 m N τ) (r7 : isRow 117 m A τ) (r8 : isRow 118 m B τ) (r9 : isRow 119 m C τ) : ILaw Q τ := by
  have q0 : rd τ Q 0 = m := rd_of (x := 0) e0 (by omega) (by omega)
  have q16 : rd τ 102 16 = m := rd_of (x := 16) e16 (by omega) (by omega)
  have c5 : ∀ j, 0 ≤ j → j < s → rd τ (Q + 5) j = K.1 j ∧ rd τ 115 j = K.2.2 j ∧ (K.1 j = 35 ∨ K.1 j = 97 ∨ K.1 j = 38 ∨ K.1 j = 124 → rd τ (Q + 6) j = K.2.1 j) := fun j j0 j1 => by
    obtain ⟨b1, b2, b3, b4, b5⟩ := CEq_b (ok j j0 j1)
    exact ⟨rd_of (rc j j0 j1).1 (by omega) (by omega), rd_of (r5 j j0 j1) (by omega) (by omega), fun y => rd_of (rc j j0 j1).2 (by have := b5 y; omega) (by have := b5 y; omega)⟩
  unfold ILaw
  rw [q0, q16]
  refine ⟨m0, m16, rfl, fun i i0 i1 => ?_⟩
  obtain ⟨kd, a0, ab, bc, cs, w1, w2⟩ := co i i0 i1
  have nb : 0 ≤ N i ∧ N i < 256 := by unfold isKd at kd; omega
  have n1 : rd τ (Q + 1) i = N i := rd_of (rn.1 i i0 i1) (by omega) (by omega)
  have n2 : rd τ (Q + 2) i = A i := rd_of (rn.2.1 i i0 i1) (by omega) (by omega)
  have n3 : rd τ (Q + 3) i = B i := rd_of (rn.2.2.1 i i0 i1) (by omega) (by omega)
  have n4 : rd τ (Q + 4) i = C i := rd_of (rn.2.2.2 i i0 i1) (by omega) (by omega)
  have n6 : rd τ 116 i = N i := rd_of (r6 i i0 i1) (by omega) (by omega)
  have n7 : rd τ 117 i = A i := rd_of (r7 i i0 i1) (by omega) (by omega)
  have n8 : rd τ 118 i = B i := rd_of (r8 i i0 i1) (by omega) (by omega)
  have n9 : rd τ 119 i = C i := rd_of (r9 i i0 i1) (by omega) (by omega)
  rw [n1, n2, n3, n4, n6, n7, n8, n9]
  refine ⟨rfl, rfl, rfl, rfl, a0, ab, bc, by omega, fun j j0 j1 => ?_, fun y => ?_, ?_⟩
  · obtain ⟨e1, e2, e3⟩ := c5 j j0 (by omega)
    rw [e1, e2]
    exact CEq_w (ok j j0 (by omega)) e3
  · obtain ⟨f, hf⟩ := w1 y
    exact ⟨f, WX_cg2 hf fun j j0 j1 => ⟨(c5 j (by omega) (by omega)).1, fun w => (c5 j (by omega) (by omega)).2.2 (by omega)⟩⟩
  · obtain ⟨f, hf⟩ := w2
    exact ⟨f, WX_cg2 hf fun j j0 j1 => ⟨(c5 j (by omega) (by omega)).1, fun w => (c5 j (by omega) (by omega)).2.2 (by omega)⟩⟩
def S115 (a _k : Nat) : Bool := a == 115 || a == 116 || a == 117 || a == 118 || a == 119
theorem lawCopy {s m : Int} {M N A B C : Int → Int} (s0 : 0 ≤ s) (s1 : s ≤ 240) (m0 : 0 ≤ m) (m16 : m ≤ 16) {τ : Sg} (e13 : τ.1 102 13 = zI s) (e15 : τ.1 102 15 = zI m) (h9 : isRow 109 s M τ) (ro : RwM m N A B C τ) {d : Nat} {y z : Value} : ∃ τ', f_M_law_96 d y z (zI 0) τ = rI (zI m) τ' ∧ Fr S115 τ τ' ∧ isRow 115 s M τ' ∧ isRow 116 m N τ' ∧ isRow 117 m A τ' ∧ isRow 118 m B τ' ∧ isRow 119 m C τ' := by
  have second : ∀ (b : Nat) (i : Int) (υ : Sg) (z : Value), i + b = m → 0 ≤ i → Fr S115 τ υ → isRow 115 s M υ → isRow 116 i N υ → isRow 117 i A υ → isRow 118 i B υ → isRow 119 i C υ → ∃ τ', f_M_law_124 d y z (zI i) υ = rI (zI m) τ' ∧ Fr S115 τ τ' ∧ isRow 115 s M τ' ∧ isRow 116 m N τ' ∧ isRow 117 m A τ' ∧ isRow 118 m B τ' ∧ isRow 119 m C τ' := by
    intro b
    induction b with
    | zero =>
      intro i υ z hi i0 K h1 h2 h3 h4 h5
      have : i = m := by omega
      subst this
      refine ⟨υ, ?_, K, h1, h2, h3, h4, h5⟩
      rw [f_M_law_124_eq, (K.2 102 15 rfl).trans e15, if_neg Int32.lt_irrefl]
    | succ b ih =>
      intro i υ z hi i0 K h1 h2 h3 h4 h5
      have i1 : i < m := by omega
      have r1 := (K.2 111 i.toNat rfl).trans (ro.1 i i0 i1)
      have r2 := (K.2 112 i.toNat rfl).trans (ro.2.1 i i0 i1)
      have r3 := (K.2 113 i.toNat rfl).trans (ro.2.2.1 i i0 i1)
      have r4 := (K.2 114 i.toNat rfl).trans (ro.2.2.2 i i0 i1)
      generalize hρ : sI (sI (sI (sI υ 116 i.toNat (zI (N i))) 117 i.toNat (zI (A i))) 118 i.toNat (zI (B i))) 119 i.toNat (zI (C i)) = ρ
      have st : f_M_law_124 d y z (zI i) υ = f_M_law_124 d y (nlg z) (zI (i + 1)) ρ := by
        rw [f_M_law_124_eq, (K.2 102 15 rfl).trans e15, ifLe (by omega) (by omega), if_pos i1]
        simp only [bnd_zI i0 (show i < (16 : Nat) by omega) (show i < 2147483648 by omega), ix_zI i0 (show i < 2147483648 by omega)]
        rw [r1, sI_row _ _ _ _ _ (show (112 : Nat) ≠ 116 by decide), r2, sI_row _ _ _ _ _ (show (113 : Nat) ≠ 117 by decide), sI_row _ _ _ _ _ (show (113 : Nat) ≠ 116 by decide), r3, sI_row _ _ _ _ _ (show (114 : Nat) ≠ 118 by decide), sI_row _ _ _ _ _ (show (114 : Nat) ≠ 117 by decide), sI_row _ _ _ _ _ (show (114 : Nat) ≠ 116 by decide), r4, hρ, show (1 : Int32) = zI 1 from zI_lit 1, zI_add]
      have Kρ : Fr S115 υ ρ := by
        rw [← hρ]
        exact ((((Fr.rf _ υ).sI _ rfl).sI _ rfl).sI _ rfl).sI _ rfl
      have put : ∀ (a : Nat) (X : Int → Int), isRow a i X υ → ρ.1 a i.toNat = zI (X i) → (∀ k : Nat, k ≠ i.toNat → ρ.1 a k = υ.1 a k) → isRow a (i + 1) X ρ := fun a X hX h0 hk x x0 x1 => by
        by_cases q : x = i
        · subst q; exact h0
        · rw [hk _ (by omega)]; exact hX x x0 (by omega)
      have ok : ∀ a k, k ≠ i.toNat → ρ.1 a k = υ.1 a k := fun a k q => by
        rw [← hρ, sI_slot _ _ _ _ q, sI_slot _ _ _ _ q, sI_slot _ _ _ _ q, sI_slot _ _ _ _ q]
      rw [st]
      refine ih (i + 1) ρ _ (by omega) (by omega) (K.tr Kρ) (fun x x0 x1 => ?_) (put _ _ h2 ?_ (ok _)) (put _ _ h3 ?_ (ok _)) (put _ _ h4 ?_ (ok _)) (put _ _ h5 ?_ (ok _))
      · rw [← hρ, sI_row _ _ _ _ _ (by decide), sI_row _ _ _ _ _ (by decide), sI_row _ _ _ _ _ (by decide), sI_row _ _ _ _ _ (by decide)]
        exact h1 x x0 x1
      · rw [← hρ, sI_row _ _ _ _ _ (by decide), sI_row _ _ _ _ _ (by decide), sI_row _ _ _ _ _ (by decide), sI_same]
      · rw [← hρ, sI_row _ _ _ _ _ (by decide), sI_row _ _ _ _ _ (by decide), sI_same]
      · rw [← hρ, sI_row _ _ _ _ _ (by decide), sI_same]
      · rw [← hρ, sI_same]
  have first : ∀ (b : Nat) (i : Int) (υ : Sg) (z : Value), i + b = s → 0 ≤ i → Fr S115 τ υ → isRow 115 i M υ → ∃ τ', f_M_law_96 d y z (zI i) υ = rI (zI m) τ' ∧ Fr S115 τ τ' ∧ isRow 115 s M τ' ∧ isRow 116 m N τ' ∧ isRow 117 m A τ' ∧ isRow 118 m B τ' ∧ isRow 119 m C τ' := by
    intro b
    induction b with
    | zero =>
      intro i υ z hi i0 K h1
      have : i = s := by omega
      subst this
      rw [f_M_law_96_eq, (K.2 102 13 rfl).trans e13, if_neg Int32.lt_irrefl, zI_0]
      exact second m.toNat 0 υ _ (by omega) (by decide) K h1 (fun x x0 x1 => by omega) (fun x x0 x1 => by omega) (fun x x0 x1 => by omega) fun x x0 x1 => by omega
    | succ b ih =>
      intro i υ z hi i0 K h1
      have i1 : i < s := by omega
      have r1 := (K.2 109 i.toNat rfl).trans (h9 i i0 i1)
      rw [f_M_law_96_eq, (K.2 102 13 rfl).trans e13, ifLe (by omega) (by omega), if_pos i1]
      simp only [bnd_zI i0 (show i < (260 : Nat) by omega) (show i < 2147483648 by omega), ix_zI i0 (show i < 2147483648 by omega)]
      rw [r1, show (1 : Int32) = zI 1 from zI_lit 1, zI_add]
      refine ih (i + 1) _ _ (by omega) (by omega) (K.sI _ rfl) fun x x0 x1 => ?_
      by_cases q : x = i
      · subst q; exact sI_same _ _ _ _
      · rw [sI_slot _ _ _ _ (by omega)]; exact h1 x x0 (by omega)
  exact first s.toNat 0 τ z (by omega) (by decide) (Fr.rf _ _) fun x x0 x1 => by omega
def spL (l a : Nat) : Bool := a == 74 - l || a == 74 - l + 1 || a == 74 - l + 2 || a == 74 - l + 3 || a == 74 - l + 4 || a == 74 - l + 5 || a == 74 - l + 6
def SLo2 (a k : Nat) : Bool := a == 5 || SMk a k || SMla a k || (a == 102 && (k == 7 || k == 16)) || S115 a k
theorem Inv.spareL {σ σ' : Sg} {r p l : Nat} (h : Inv r p l σ) (F : Fr (fun a _ => spL l a) σ σ') : Inv r p l σ' := by
  have hb := h.bits
  have hr := hb.1; have hp := hb.2.1; have hl := hb.2.2
  refine ⟨h.1.fr F, h.2.1.fr F ?_, h.2.2.1.fr F ?_, h.2.2.2.1.fr F ?_, h.2.2.2.2.1.fr F ?_, h.2.2.2.2.2.1.fr F ?_, h.2.2.2.2.2.2.1.fr F (fr_rd F ?_) ?_, h.2.2.2.2.2.2.2.fr F ?_⟩
  · intro a k; simp [DTape, spL]; omega
  · intro a k; simp [DRule, spL]; omega
  · intro a k; simp [DRoll, spL]; omega
  · intro a k; simp [DLaw, spL]; omega
  · intro a k; simp [DHou, spL]; omega
  · simp [spL]; omega
  · intro a k; simp [DV, spL]; omega
  · intro a k; simp [DKep, DV, spL]; omega
theorem IRoll.refs {r p : Nat} {σ τ : Sg} (e : τ.1 = σ.1) (h : IRoll r p σ) : IRoll r p τ := by
  have e' : ∀ a, rd τ a = rd σ a := fun a => funext fun y => by unfold rd; rw [e]
  unfold IRoll at h ⊢
  rw [e, e' r, e' p, e' (p + 1), e' (p + 2), e' (p + 3), e' (p + 4), e' (p + 5), e' 102, e' 142, e' 143, e' 144, e' 145, e' 146]
  exact h
theorem IHou.refs {r p : Nat} {σ τ : Sg} (e : τ.1 = σ.1) (h : IHou r p σ) : IHou r p τ := by
  have e' : ∀ a, rd τ a = rd σ a := fun a => funext fun y => by unfold rd; rw [e]
  unfold IHou at h ⊢
  rw [e' r, e' p, e' (r + 1), e' (r + 2), e' (r + 4), e' (p + 1), e' (p + 2), e' (p + 3), e' (p + 4), e' (p + 5), e' 76, e' 77, e' 80, e]
  exact h
theorem law_inv {r p l : Nat} {σ τ : Sg} (h : Inv r p l σ) (hr5 : τ.2.2 4 5 = 74 - l) (hr6 : τ.2.2 4 6 = l) (hro : ∀ b j, ¬ (b = 4 ∧ (j = 5 ∨ j = 6)) → τ.2.2 b j = σ.2.2 b j) (hF : ∀ a j, (spL l a || SLo2 a j) = false → τ.1 a j = σ.1 a j) (e51 : τ.1 5 1 = zI 0) (e7 : τ.1 102 7 = zI 0) (hL : ILaw (74 - l) τ) : Inv r p (74 - l) τ := by
  have hb := h.bits
  have hr : r = 7 ∨ r = 12 := hb.1
  have hp : p = 17 ∨ p = 25 := hb.2.1
  have hl : l = 33 ∨ l = 41 := hb.2.2
  have K : Fr (fun a j => spL l a || SLo2 a j) σ (τ.1, σ.2) := ⟨rfl, hF⟩
  obtain ⟨i1, i2, i3, i4, i5, i6, i7, i8⟩ := id h
  have r0 : rd (τ.1, σ.2) r 0 = rd σ r 0 := fr_rd K (by rcases hl with rfl | rfl <;> rcases hr with rfl | rfl <;> rfl)
  refine ⟨?_, ?_, ?_, ?_, hL, ?_, ?_, ?_⟩
  · obtain ⟨a1, a2, a3, a4, a5, a6, a7, a8, a9, a10⟩ := i1
    refine ⟨a1, a2, by rcases hl with rfl | rfl <;> simp [isL], ?_, ?_, ?_, ?_, hr5, by rw [hr6]; omega, ?_⟩
    · rw [hro _ _ (by omega)]; exact a4
    · rw [hro _ _ (by omega)]; exact a5
    · rw [hro _ _ (by omega)]; exact a6
    · rw [hro _ _ (by omega)]; exact a7
    · rw [hro _ _ (by omega), hro _ _ (by omega)]; exact a10
  · have q1 : rd τ 5 1 = 0 := rd_of (x := 1) e51 (by omega) (by omega)
    have q2 : rd τ 102 7 = 0 := rd_of (x := 7) e7 (by omega) (by omega)
    unfold ITape
    rw [q1, q2]
    exact ⟨by decide, by decide, rfl, fun j j0 j1 => by omega⟩
  · refine IRule.refs (σ := (τ.1, σ.2)) (fun _ => rfl) ?_
    refine i3.fr K fun a j e => ?_
    simp only [DRule, Bool.or_eq_true, Bool.and_eq_true, beq_iff_eq] at e
    rcases hl with rfl | rfl <;> rcases hr with rfl | rfl <;> rcases e with ((((((rfl | rfl) | rfl) | rfl) | rfl) | ⟨rfl, rfl⟩) | rfl) | rfl <;> rfl
  · refine IRoll.refs (σ := (τ.1, σ.2)) rfl ?_
    refine i4.fr K fun a j e => ?_
    simp only [DRoll, Bool.or_eq_true, Bool.and_eq_true, beq_iff_eq] at e
    rcases hl with rfl | rfl <;> rcases hp with rfl | rfl <;> rcases hr with rfl | rfl <;> rcases e with ((((((((((((((⟨rfl, rfl⟩ | ⟨rfl, (rfl | rfl) | rfl⟩) | rfl) | rfl) | rfl) | rfl) | rfl) | rfl) | rfl) | ⟨rfl, rfl⟩) | rfl) | rfl) | rfl) | rfl) | rfl) <;> rfl
  · refine IHou.refs (σ := (τ.1, σ.2)) rfl ?_
    refine i6.fr K fun a j e => ?_
    simp only [DHou, Bool.or_eq_true, Bool.and_eq_true, beq_iff_eq] at e
    rcases hl with rfl | rfl <;> rcases hp with rfl | rfl <;> rcases hr with rfl | rfl <;> rcases e with (((((((((((((⟨rfl, rfl⟩ | rfl) | rfl) | rfl) | ⟨rfl, rfl⟩) | rfl) | rfl) | rfl) | rfl) | rfl) | rfl) | rfl) | rfl) | rfl) <;> rfl
  · refine IVil.refs (σ := (τ.1, σ.2)) (fun _ => rfl) ?_
    refine i7.fr K r0 fun a j e => ?_
    simp only [DV, Bool.or_eq_true, Bool.and_eq_true, beq_iff_eq] at e
    rcases hl with rfl | rfl <;> rcases e with (((⟨rfl, rfl | rfl⟩ | rfl) | rfl) | rfl) | rfl <;> rfl
  · refine IKep.refs (σ := (τ.1, σ.2)) (fun _ => rfl) ?_
    refine i8.fr K fun a j e => ?_
    simp only [DKep, DV, Bool.or_eq_true, Bool.and_eq_true, beq_iff_eq] at e
    rcases hl with rfl | rfl <;> rcases e with (rfl | ⟨rfl, rfl | rfl⟩) | ((((⟨rfl, rfl | rfl⟩ | rfl) | rfl) | rfl) | rfl) <;> rfl
