/-! rule: names forgotten, in both; the next state -/
def S18 (p a _k : Nat) : Bool := a == p + 2
theorem forget_sp {σ : Sg} {p : Nat} (hP : isP p) {m k : Int} (m0 : 0 ≤ m) (m24 : m ≤ 24) (k6 : -1 ≤ k ∧ k ≤ 6) (em : σ.1 p 0 = zI m) {T : Int → Int} (hT : ∀ x, 0 ≤ x → x < m → σ.1 (p + 2) x.toNat = zI (T x) ∧ -1 ≤ T x ∧ T x ≤ 6) {d : Nat} : ∃ σ', f_Roll_forgetNamesFrom (d + 1) p (zI k) σ = rV σ' ∧ Fr (S18 p) σ σ' ∧ ∀ x, 0 ≤ x → x < m → σ'.1 (p + 2) x.toNat = zI (if T x < k then T x else -1) := by
  have e0 : ∀ τ, Fr (S18 p) σ τ → τ.1 p 0 = zI m := fun τ K => (K.2 _ _ (by simp [S18])).trans em
  have main : ∀ (b : Nat) (i : Int) (τ : Sg), i + b = m → 0 ≤ i → Fr (S18 p) σ τ → (∀ x, 0 ≤ x → x < m → τ.1 (p + 2) x.toNat = zI (if i ≤ x ∨ T x < k then T x else -1)) → ∃ σ', f_Roll_forgetNamesFrom_2 d p (zI k) (zI i) τ = rV σ' ∧ Fr (S18 p) σ σ' ∧ ∀ x, 0 ≤ x → x < m → σ'.1 (p + 2) x.toNat = zI (if T x < k then T x else -1) := by
    intro b
    induction b with
    | zero =>
      intro i τ hi i0 K h
      have : i = m := by omega
      subst this
      refine ⟨τ, by rw [f_Roll_forgetNamesFrom_2_eq, gfI_of hP.s0, e0 τ K, if_neg Int32.lt_irrefl], K, fun x x0 x1 => ?_⟩
      rw [h x x0 x1]
      by_cases q : T x < k
      · rw [if_pos (Or.inr q), if_pos q]
      · rw [if_neg (by omega), if_neg q]
    | succ b ih =>
      intro i τ hi i0 K h
      have i1 : i < m := by omega
      have ht := hT i i0 i1
      have hi' := h i i0 i1
      rw [if_pos (Or.inl (Int.le_refl _))] at hi'
      rw [f_Roll_forgetNamesFrom_2_eq, gfI_of hP.s0, e0 τ K, if_pos (by rw [zI_le (by omega) (by omega)]; exact i1), gfS_of hP.s0, ofs_4_2, ldi_of hP.s2 i0 (by omega) (by omega), hi', gfS_of hP.s0, ofs_4_2, stI_of hP.s2 i0 (by omega) (by omega), show (-1 : Int32) = zI (-1) from rfl, show (1 : Int32) = zI 1 from zI_lit 1, zI_add]
      by_cases q : T i < k
      · rw [if_pos (by rw [zI_le (by omega) (by omega)]; exact q)]
        refine ih (i + 1) τ (by omega) (by omega) K fun x x0 x1 => ?_
        rw [h x x0 x1]
        by_cases e : x = i
        · subst e; rw [if_pos (Or.inr q), if_pos (Or.inr q)]
        · by_cases w : i ≤ x ∨ T x < k
          · rw [if_pos w, if_pos (by omega)]
          · rw [if_neg w, if_neg (by omega)]
      · rw [if_neg (by rw [zI_le (by omega) (by omega)]; exact q)]
        refine ih (i + 1) _ (by omega) (by omega) (K.sI _ (by simp [S18])) fun x x0 x1 => ?_
        by_cases e : x = i
        · subst e; rw [sI_same, if_neg (by omega)]
        · rw [sI_slot _ _ _ _ (by omega), h x x0 x1]
          by_cases w : i ≤ x ∨ T x < k
          · rw [if_pos w, if_pos (by omega)]
          · rw [if_neg w, if_neg (by omega)]
  rw [f_Roll_forgetNamesFrom_eq, zI_0]
  exact main m.toNat 0 σ (by omega) (by decide) (Fr.rf _ _) fun x x0 x1 => by rw [if_pos (Or.inl x0)]; exact (hT x x0 x1).1
def SMq (a k : Nat) : Bool := a == 106 || a == 107 || a == 143 || (a == 103 && decide (k < 18))
theorem ruleEnd_sp {τ : Sg} {k m : Int} (k0 : 0 ≤ k) (k6 : k ≤ 6) (m0 : 0 ≤ m) (m24 : m ≤ 24) (e5 : τ.1 102 5 = zI k) (e69 : τ.1 102 69 = zI m) {W C T : Int → Int} (h1 : ∀ x, 0 ≤ x → x < k → τ.1 122 x.toNat = zI (W x)) (h2 : ∀ x, 0 ≤ x → x < k → τ.1 123 x.toNat = zI (C x)) (hT : ∀ x, 0 ≤ x → x < m → τ.1 143 x.toNat = zI (T x) ∧ -1 ≤ T x ∧ T x ≤ 6) {d : Nat} {v1 v2 : Value} : ∃ τ', f_M_rule_70 d v1 v2 (zI 0) τ = rI (zI k) τ' ∧ Fr SMq τ τ' ∧ (∀ x, 0 ≤ x → x < k → τ'.1 106 x.toNat = zI (W x) ∧ τ'.1 107 x.toNat = zI (C x)) ∧ (∀ j : Nat, j < 18 → τ'.1 103 j = zI 0) ∧ ∀ x, 0 ≤ x → x < m → τ'.1 143 x.toNat = zI (if T x < k then T x else -1) := by
  have third : ∀ (b : Nat) (i : Int) (υ : Sg) (v1 v2 : Value), i + b = m → 0 ≤ i → Fr SMq τ υ → (∀ x, 0 ≤ x → x < k → υ.1 106 x.toNat = zI (W x) ∧ υ.1 107 x.toNat = zI (C x)) → (∀ j : Nat, j < 18 → υ.1 103 j = zI 0) → (∀ x, 0 ≤ x → x < m → υ.1 143 x.toNat = zI (if i ≤ x ∨ T x < k then T x else -1)) → ∃ τ', f_M_rule_131 d v1 v2 (zI i) υ = rI (zI k) τ' ∧ Fr SMq τ τ' ∧ (∀ x, 0 ≤ x → x < k → τ'.1 106 x.toNat = zI (W x) ∧ τ'.1 107 x.toNat = zI (C x)) ∧ (∀ j : Nat, j < 18 → τ'.1 103 j = zI 0) ∧ ∀ x, 0 ≤ x → x < m → τ'.1 143 x.toNat = zI (if T x < k then T x else -1) := by
    intro b
    induction b with
    | zero =>
      intro i υ v1 v2 hi i0 K g1 g2 h
      have : i = m := by omega
      subst this
      refine ⟨υ, by rw [f_M_rule_131_eq, (K.2 102 69 rfl).trans e69, if_neg Int32.lt_irrefl, (K.2 102 5 rfl).trans e5], K, g1, g2, fun x x0 x1 => ?_⟩
      rw [h x x0 x1]
      by_cases q : T x < k
      · rw [if_pos (Or.inr q), if_pos q]
      · rw [if_neg (by omega), if_neg q]
    | succ b ih =>
      intro i υ v1 v2 hi i0 K g1 g2 h
      have i1 : i < m := by omega
      have ht := hT i i0 i1
      have hi' := h i i0 i1
      rw [if_pos (Or.inl (Int.le_refl _))] at hi'
      rw [f_M_rule_131_eq, (K.2 102 69 rfl).trans e69, if_pos (by rw [zI_le (by omega) (by omega)]; exact i1)]
      simp only [bnd_zI i0 (show i < (24 : Nat) by omega) (show i < 2147483648 by omega), ix_zI i0 (show i < 2147483648 by omega), hi', (K.2 102 5 rfl).trans e5]
      rw [show (-1 : Int32) = zI (-1) from rfl, show zI i + 1 = zI (i + 1) from by rw [show (1 : Int32) = zI 1 from zI_lit 1, zI_add]]
      by_cases q : T i < k
      · rw [if_pos (by rw [zI_le (by omega) (by omega)]; exact q)]
        refine ih (i + 1) υ _ _ (by omega) (by omega) K g1 g2 fun x x0 x1 => ?_
        rw [h x x0 x1]
        by_cases e : x = i
        · subst e; rw [if_pos (Or.inr q), if_pos (Or.inr q)]
        · by_cases w : i ≤ x ∨ T x < k
          · rw [if_pos w, if_pos (by omega)]
          · rw [if_neg w, if_neg (by omega)]
      · rw [if_neg (by rw [zI_le (by omega) (by omega)]; exact q)]
        refine ih (i + 1) _ _ _ (by omega) (by omega) (K.sI _ rfl) (fun x x0 x1 => ⟨(sI_row _ _ _ _ _ (by decide)).trans (g1 x x0 x1).1, (sI_row _ _ _ _ _ (by decide)).trans (g1 x x0 x1).2⟩) (fun j hj => (sI_row _ _ _ _ _ (by decide)).trans (g2 j hj)) fun x x0 x1 => ?_
        by_cases e : x = i
        · subst e; rw [sI_same, if_neg (by omega)]
        · rw [sI_slot _ _ _ _ (by omega), h x x0 x1]
          by_cases w : i ≤ x ∨ T x < k
          · rw [if_pos w, if_pos (by omega)]
          · rw [if_neg w, if_neg (by omega)]
  have second : ∀ (b : Nat) (i : Int) (υ : Sg) (v1 v2 : Value), i + b = 18 → 0 ≤ i → Fr SMq τ υ → (∀ x, 0 ≤ x → x < k → υ.1 106 x.toNat = zI (W x) ∧ υ.1 107 x.toNat = zI (C x)) → (∀ j : Nat, (j : Int) < i → υ.1 103 j = zI 0) → (∀ x, 0 ≤ x → x < m → υ.1 143 x.toNat = zI (T x)) → ∃ τ', f_M_rule_110 d v1 v2 (zI i) υ = rI (zI k) τ' ∧ Fr SMq τ τ' ∧ (∀ x, 0 ≤ x → x < k → τ'.1 106 x.toNat = zI (W x) ∧ τ'.1 107 x.toNat = zI (C x)) ∧ (∀ j : Nat, j < 18 → τ'.1 103 j = zI 0) ∧ ∀ x, 0 ≤ x → x < m → τ'.1 143 x.toNat = zI (if T x < k then T x else -1) := by
    intro b
    induction b with
    | zero =>
      intro i υ v1 v2 hi i0 K g1 g2 h
      have : i = 18 := by omega
      subst this
      rw [f_M_rule_110_eq, show (18 : Int32) = zI 18 from zI_lit 18, if_neg Int32.lt_irrefl, zI_0]
      exact third m.toNat 0 υ _ _ (by omega) (by decide) K g1 (fun j hj => g2 j (by omega)) fun x x0 x1 => by rw [if_pos (Or.inl x0)]; exact h x x0 x1
    | succ b ih =>
      intro i υ v1 v2 hi i0 K g1 g2 h
      have i1 : i < 18 := by omega
      rw [f_M_rule_110_eq, show (18 : Int32) = zI 18 from zI_lit 18, if_pos (by rw [zI_le (by omega) (by decide)]; exact i1), bnd_zI i0 (by omega) (by omega), ix_zI i0 (by omega), show zI i + 1 = zI (i + 1) from by rw [show (1 : Int32) = zI 1 from zI_lit 1, zI_add], zI_0]
      refine ih (i + 1) _ _ _ (by omega) (by omega) (K.sI _ (by simp [SMq]; omega)) (fun x x0 x1 => ⟨(sI_row _ _ _ _ _ (by decide)).trans (g1 x x0 x1).1, (sI_row _ _ _ _ _ (by decide)).trans (g1 x x0 x1).2⟩) (fun j hj => ?_) fun x x0 x1 => (sI_row _ _ _ _ _ (by decide)).trans (h x x0 x1)
      by_cases e : j = i.toNat
      · subst e; exact sI_same _ _ _ _
      · rw [sI_slot _ _ _ _ e]; exact g2 j (by omega)
  have first : ∀ (b : Nat) (i : Int) (υ : Sg) (v1 v2 : Value), i + b = k → 0 ≤ i → Fr SMq τ υ → (∀ x, 0 ≤ x → x < i → υ.1 106 x.toNat = zI (W x) ∧ υ.1 107 x.toNat = zI (C x)) → (∀ x, 0 ≤ x → x < m → υ.1 143 x.toNat = zI (T x)) → ∃ τ', f_M_rule_70 d v1 v2 (zI i) υ = rI (zI k) τ' ∧ Fr SMq τ τ' ∧ (∀ x, 0 ≤ x → x < k → τ'.1 106 x.toNat = zI (W x) ∧ τ'.1 107 x.toNat = zI (C x)) ∧ (∀ j : Nat, j < 18 → τ'.1 103 j = zI 0) ∧ ∀ x, 0 ≤ x → x < m → τ'.1 143 x.toNat = zI (if T x < k then T x else -1) := by
    intro b
    induction b with
    | zero =>
      intro i υ v1 v2 hi i0 K g1 h
      have : i = k := by omega
      subst this
      rw [f_M_rule_70_eq, (K.2 102 5 rfl).trans e5, if_neg Int32.lt_irrefl, zI_0]
      exact second 18 0 υ _ _ (by decide) (by decide) K g1 (fun j hj => by omega) h
    | succ b ih =>
      intro i υ v1 v2 hi i0 K g1 h
      have i1 : i < k := by omega
      rw [f_M_rule_70_eq, (K.2 102 5 rfl).trans e5, if_pos (by rw [zI_le (by omega) (by omega)]; exact i1)]
      simp only [bnd_zI i0 (show i < (6 : Nat) by omega) (show i < 2147483648 by omega), ix_zI i0 (show i < 2147483648 by omega)]
      rw [(K.2 122 _ rfl).trans (h1 i i0 i1), show (sI υ 106 i.toNat (zI (W i))).1 123 i.toNat = zI (C i) from (sI_row _ _ _ _ _ (by decide)).trans ((K.2 123 _ rfl).trans (h2 i i0 i1)), show zI i + 1 = zI (i + 1) from by rw [show (1 : Int32) = zI 1 from zI_lit 1, zI_add]]
      refine ih (i + 1) _ _ _ (by omega) (by omega) ((K.sI _ rfl).sI _ rfl) (fun x x0 x1 => ?_) fun x x0 x1 => (sI_row _ _ _ _ _ (by decide)).trans ((sI_row _ _ _ _ _ (by decide)).trans (h x x0 x1))
      by_cases e : x = i
      · subst e; exact ⟨(sI_row _ _ _ _ _ (by decide)).trans (sI_same _ _ _ _), sI_same _ _ _ _⟩
      · rw [sI_row _ _ _ _ _ (by decide), sI_slot _ _ _ _ (by omega), sI_slot _ _ _ _ (by omega), sI_row _ _ _ _ _ (by decide)]
        exact g1 x x0 (by omega)
  exact first k.toNat 0 τ v1 v2 (by omega) (by decide) (Fr.rf _ _) (fun x x0 x1 => by omega) fun x x0 x1 => (hT x x0 x1).1
