/-! a search in breadth, purely -/
def itN (pr : Nat → Nat) : Nat → Nat → Nat
  | 0, j => j
  | t + 1, j => pr (itN pr t j)
def Rc (al : Int → Int → Bool) (nx : Int → Int → Int) (goal : Int) : Nat → Int → Prop
  | 0, v => v = goal
  | L + 1, v => ∃ k, 0 ≤ k ∧ k < 8 ∧ al k v = true ∧ Rc al nx goal L (nx k v)
def lxl (p k p' k' : Int) : Prop := p < p' ∨ p = p' ∧ k < k'
def BI (N : Int) (al : Int → Int → Bool) (nx : Int → Int → Int) (s : Int) (q : Nat → Int) (pr : Nat → Nat) (kd : Nat → Int) (m K : Nat) (c : Int) : Prop :=
  (1 ≤ m ∧ q 0 = s ∧ pr 0 = 0) ∧ (∀ j, j < m → 0 ≤ q j ∧ q j < N) ∧ (∀ i j, i < j → j < m → q i ≠ q j) ∧
  (∀ j, 1 ≤ j → j < m → pr j < j ∧ q j = nx (kd j) (q (pr j)) ∧ 0 ≤ kd j ∧ kd j < 8 ∧ al (kd j) (q (pr j)) = true ∧ lxl (pr j) (kd j) K c) ∧
  (∀ i j, 1 ≤ i → i < j → j < m → lxl (pr i) (kd i) (pr j) (kd j)) ∧
  ∀ (k : Nat) (c' : Int), 0 ≤ c' → c' < 8 → lxl k c' K c → k < m → al c' (q k) = true → ∃ j, j < m ∧ q j = nx c' (q k) ∧ (j = 0 ∨ lxl (pr j) (kd j) k (c' + 1))
theorem BI.le {N : Int} {al : Int → Int → Bool} {nx : Int → Int → Int} {s : Int} {q : Nat → Int} {pr : Nat → Nat} {kd : Nat → Int} {m K : Nat} {c : Int} (h : BI N al nx s q pr kd m K c) : (m : Int) ≤ N := by
  obtain ⟨⟨h1, -⟩, h2, h3, -⟩ := h
  rcases Int.lt_or_le N (m : Int) with z | z
  · have := (h2 0 h1)
    obtain ⟨i, j, ij, hj, e⟩ := php N.toNat q fun i hi => by have := h2 i (by omega); omega
    exact absurd e (h3 i j ij (by omega))
  · exact z
theorem BI.skip {N : Int} {al : Int → Int → Bool} {nx : Int → Int → Int} {s : Int} {q : Nat → Int} {pr : Nat → Nat} {kd : Nat → Int} {m K : Nat} {c : Int} (h : BI N al nx s q pr kd m K c) (hc : ∀ (_ : K < m), al c (q K) = true → ∃ j, j < m ∧ q j = nx c (q K)) : BI N al nx s q pr kd m K (c + 1) := by
  obtain ⟨h1, h2, h3, h4, h5, h6⟩ := h
  refine ⟨h1, h2, h3, fun j j1 jm => ?_, h5, fun k c' c0 c8 l km a => ?_⟩
  · obtain ⟨a1, a2, a3, a4, a5, a6⟩ := h4 j j1 jm
    refine ⟨a1, a2, a3, a4, a5, ?_⟩
    unfold lxl at a6 ⊢; omega
  · by_cases z : (k : Int) = K ∧ c' = c
    · obtain ⟨z1, rfl⟩ := z
      have z1 : k = K := by omega
      subst z1
      obtain ⟨j, jm, e⟩ := hc km a
      refine ⟨j, jm, e, ?_⟩
      rcases Nat.eq_zero_or_pos j with y | y
      · exact Or.inl y
      · have := (h4 j y jm).2.2.2.2.2
        unfold lxl at this ⊢; omega
    · exact h6 k c' c0 c8 (by unfold lxl at l ⊢; omega) km a
theorem BI.app {N : Int} {al : Int → Int → Bool} {nx : Int → Int → Int} {s : Int} {q : Nat → Int} {pr : Nat → Nat} {kd : Nat → Int} {m K : Nat} {c : Int} (h : BI N al nx s q pr kd m K c) (Km : K < m) (c0 : 0 ≤ c) (c8 : c < 8) (a : al c (q K) = true) (hb : 0 ≤ nx c (q K) ∧ nx c (q K) < N) (hn : ¬ ∃ j, j < m ∧ q j = nx c (q K)) : BI N al nx s (fun j => if j = m then nx c (q K) else q j) (fun j => if j = m then K else pr j) (fun j => if j = m then c else kd j) (m + 1) K (c + 1) := by
  obtain ⟨⟨h0, h0', h0''⟩, h2, h3, h4, h5, h6⟩ := h
  have eo : ∀ {β : Type} (x : β) (f : Nat → β) (j : Nat), j < m → (if j = m then x else f j) = f j := fun x f j hj => if_neg (by omega)
  refine ⟨⟨by omega, by show (if 0 = m then _ else _) = _; rw [eo _ _ _ (by omega)]; exact h0', by show (if 0 = m then _ else _) = _; rw [eo _ _ _ (by omega)]; exact h0''⟩, fun j jm => ?_, fun i j ij jm => ?_, fun j j1 jm => ?_, fun i j i1 ij jm => ?_, fun k c' c0' c8' l km a' => ?_⟩
  · show 0 ≤ (if j = m then _ else _) ∧ (if j = m then _ else _) < N
    by_cases z : j = m
    · rw [if_pos z]; exact hb
    · rw [if_neg z]; exact h2 j (by omega)
  · show (if i = m then _ else _) ≠ (if j = m then _ else _)
    rw [eo _ _ i (by omega)]
    by_cases z : j = m
    · rw [if_pos z]; exact fun e => hn ⟨i, by omega, e⟩
    · rw [if_neg z]; exact h3 i j ij (by omega)
  · show (if j = m then K else pr j) < j ∧ (if j = m then nx c (q K) else q j) = nx (if j = m then c else kd j) (if (if j = m then K else pr j) = m then _ else q (if j = m then K else pr j)) ∧ 0 ≤ (if j = m then c else kd j) ∧ (if j = m then c else kd j) < 8 ∧ al (if j = m then c else kd j) (if (if j = m then K else pr j) = m then _ else q (if j = m then K else pr j)) = true ∧ lxl ((if j = m then K else pr j : Nat) : Int) (if j = m then c else kd j) K (c + 1)
    by_cases z : j = m
    · subst z
      simp only [if_true]
      rw [eo _ _ K (by omega)]
      exact ⟨Km, rfl, c0, c8, a, by unfold lxl; omega⟩
    · simp only [if_neg z]
      obtain ⟨a1, a2, a3, a4, a5, a6⟩ := h4 j j1 (by omega)
      rw [eo _ _ (pr j) (by omega)]
      exact ⟨a1, a2, a3, a4, a5, by unfold lxl at a6 ⊢; omega⟩
  · show lxl ((if i = m then K else pr i : Nat) : Int) (if i = m then c else kd i) ((if j = m then K else pr j : Nat) : Int) (if j = m then c else kd j)
    rw [eo _ _ i (by omega), eo _ _ i (by omega)]
    by_cases z : j = m
    · rw [if_pos z, if_pos z]
      exact (h4 i i1 (by omega)).2.2.2.2.2
    · rw [if_neg z, if_neg z]; exact h5 i j i1 ij (by omega)
  · have kold : k < m := by unfold lxl at l; omega
    have a' : al c' (if k = m then nx c (q K) else q k) = true := a'
    rw [eo _ _ k kold] at a'
    show ∃ j, j < m + 1 ∧ (if j = m then nx c (q K) else q j) = nx c' (if k = m then nx c (q K) else q k) ∧ (j = 0 ∨ lxl ((if j = m then K else pr j : Nat) : Int) (if j = m then c else kd j) k (c' + 1))
    rw [eo _ _ k kold]
    by_cases z : (k : Int) = K ∧ c' = c
    · obtain ⟨z1, rfl⟩ := z
      have z1 : k = K := by omega
      subst z1
      exact ⟨m, by omega, by rw [if_pos rfl], Or.inr (by rw [if_pos rfl, if_pos rfl]; unfold lxl; omega)⟩
    · obtain ⟨j, jm, e, o⟩ := h6 k c' c0' c8' (by unfold lxl at l ⊢; omega) kold a'
      refine ⟨j, by omega, by rw [eo _ _ j jm]; exact e, ?_⟩
      rw [eo _ _ j jm, eo _ _ j jm]; exact o
theorem BI.nextK {N : Int} {al : Int → Int → Bool} {nx : Int → Int → Int} {s : Int} {q : Nat → Int} {pr : Nat → Nat} {kd : Nat → Int} {m K : Nat} (h : BI N al nx s q pr kd m K 8) : BI N al nx s q pr kd m (K + 1) 0 := by
  obtain ⟨h1, h2, h3, h4, h5, h6⟩ := h
  refine ⟨h1, h2, h3, fun j j1 jm => ?_, h5, fun k c' c0 c8 l km a => h6 k c' c0 c8 (by unfold lxl at l ⊢; omega) km a⟩
  obtain ⟨a1, a2, a3, a4, a5, a6⟩ := h4 j j1 jm
  exact ⟨a1, a2, a3, a4, a5, by unfold lxl at a6 ⊢; omega⟩
theorem BI.init {N : Int} {al : Int → Int → Bool} {nx : Int → Int → Int} {s : Int} (s0 : 0 ≤ s) (s1 : s < N) : BI N al nx s (fun _ => s) (fun _ => 0) (fun _ => 0) 1 0 0 :=
  ⟨⟨Nat.le_refl 1, rfl, rfl⟩, fun _ _ => ⟨s0, s1⟩, fun i j ij jm => by omega, fun j j1 jm => by omega, fun i j i1 ij jm => by omega, fun k c' c0 _ l _ _ => by unfold lxl at l; omega⟩
/-! all is searched -/
def BF (N : Int) (al : Int → Int → Bool) (nx : Int → Int → Int) (s : Int) (q : Nat → Int) (pr : Nat → Nat) (kd : Nat → Int) (m : Nat) : Prop := BI N al nx s q pr kd m m 0
theorem BF.mono {N : Int} {al : Int → Int → Bool} {nx : Int → Int → Int} {s : Int} {q : Nat → Int} {pr : Nat → Nat} {kd : Nat → Int} {m : Nat} (h : BF N al nx s q pr kd m) {i j : Nat} (ij : i ≤ j) (jm : j < m) : pr i ≤ pr j := by
  obtain ⟨⟨-, -, h0⟩, -, -, -, h5, -⟩ := h
  rcases Nat.eq_zero_or_pos i with z | z
  · subst z; rw [h0]; exact Nat.zero_le _
  · by_cases y : i = j
    · rw [y]; exact Nat.le_refl _
    · have := h5 i j z (by omega) jm
      unfold lxl at this; omega
theorem BF.it_lt {N : Int} {al : Int → Int → Bool} {nx : Int → Int → Int} {s : Int} {q : Nat → Int} {pr : Nat → Nat} {kd : Nat → Int} {m : Nat} (h : BF N al nx s q pr kd m) {g : Nat} (gm : g < m) : ∀ t, itN pr t g ≤ g
  | 0 => Nat.le_refl _
  | t + 1 => by
    have ih := h.it_lt gm t
    rcases Nat.eq_zero_or_pos (itN pr t g) with z | z
    · show pr (itN pr t g) ≤ g
      rw [z, h.1.2.2]; omega
    · have := (h.2.2.2.1 (itN pr t g) z (by omega)).1
      show pr (itN pr t g) ≤ g
      omega
theorem BF.reach {N : Int} {al : Int → Int → Bool} {nx : Int → Int → Int} {s goal : Int} {q : Nat → Int} {pr : Nat → Nat} {kd : Nat → Int} {m : Nat} (h : BF N al nx s q pr kd m) : ∀ (L : Nat) (i : Nat), i < m → Rc al nx goal L (q i) → ∃ g, g < m ∧ q g = goal ∧ itN pr L g ≤ i
  | 0, i, im, r => ⟨i, im, r, Nat.le_refl _⟩
  | L + 1, i, im, r => by
    obtain ⟨k, k0, k8, a, r⟩ := r
    obtain ⟨j, jm, e, o⟩ := h.2.2.2.2.2 i k k0 k8 (by unfold lxl; omega) im a
    rw [← e] at r
    obtain ⟨g, gm, eg, le⟩ := h.reach L j jm r
    refine ⟨g, gm, eg, ?_⟩
    have := h.mono le jm
    have pj : pr j ≤ i := by
      rcases o with o | o
      · rw [o, h.1.2.2]; omega
      · unfold lxl at o; omega
    exact Nat.le_trans this pj
theorem BF.uniq {N : Int} {al : Int → Int → Bool} {nx : Int → Int → Int} {s : Int} {q : Nat → Int} {pr : Nat → Nat} {kd : Nat → Int} {m : Nat} (h : BF N al nx s q pr kd m) {i j : Nat} (im : i < m) (jm : j < m) (e : q i = q j) : i = j := by
  rcases Nat.lt_trichotomy i j with z | z | z
  · exact absurd e (h.2.2.1 i j z jm)
  · exact z
  · exact absurd e.symm (h.2.2.1 j i z im)
/-- how deep one lies -/
def Dp (pr : Nat → Nat) (g D : Nat) : Prop := itN pr D g = 0 ∧ ∀ t, t < D → itN pr t g ≠ 0
theorem BF.dp {N : Int} {al : Int → Int → Bool} {nx : Int → Int → Int} {s : Int} {q : Nat → Int} {pr : Nat → Nat} {kd : Nat → Int} {m : Nat} (h : BF N al nx s q pr kd m) {g : Nat} (gm : g < m) : ∃ D, D ≤ g ∧ Dp pr g D := by
  have main : ∀ t, itN pr t g = 0 ∨ itN pr t g + t ≤ g := by
    intro t
    induction t with
    | zero => exact Or.inr (Nat.le_refl _)
    | succ t ih =>
      rcases Nat.eq_zero_or_pos (itN pr t g) with z | z
      · refine Or.inl ?_
        show pr (itN pr t g) = 0
        rw [z]; exact h.1.2.2
      · have b := h.it_lt gm t
        have := (h.2.2.2.1 (itN pr t g) z (by omega)).1
        have : itN pr (t + 1) g < itN pr t g := this
        omega
  have hg : itN pr g g = 0 := by rcases main g with z | z <;> omega
  obtain ⟨D, D1, D2, D3⟩ := lstN (P := fun t => itN pr t g = 0) g hg
  exact ⟨D, D1, D2, fun t ht => D3 t ht⟩
theorem BF.dec {N : Int} {al : Int → Int → Bool} {nx : Int → Int → Int} {s : Int} {q : Nat → Int} {pr : Nat → Nat} {kd : Nat → Int} {m : Nat} (h : BF N al nx s q pr kd m) {g D : Nat} (gm : g < m) (hD : Dp pr g D) {t : Nat} (ht : t < D) : itN pr (t + 1) g < itN pr t g := (h.2.2.2.1 _ (Nat.pos_of_ne_zero (hD.2 t ht)) (by have := h.it_lt gm t; omega)).1
theorem BF.dec2 {N : Int} {al : Int → Int → Bool} {nx : Int → Int → Int} {s : Int} {q : Nat → Int} {pr : Nat → Nat} {kd : Nat → Int} {m : Nat} (h : BF N al nx s q pr kd m) {g D : Nat} (gm : g < m) (hD : Dp pr g D) {a : Nat} : ∀ b, a + b + 1 ≤ D → itN pr (a + b + 1) g < itN pr a g
  | 0, hb => h.dec gm hD (by omega)
  | b + 1, hb => Nat.lt_trans (h.dec gm hD (t := a + b + 1) (by omega)) (h.dec2 gm hD b (by omega))
theorem BF.up {N : Int} {al : Int → Int → Bool} {nx : Int → Int → Int} {s : Int} {q : Nat → Int} {pr : Nat → Nat} {kd : Nat → Int} {m : Nat} (h : BF N al nx s q pr kd m) {g D : Nat} (gm : g < m) (hD : Dp pr g D) : ∀ t, t ≤ D → Rc al nx (q g) t (q (itN pr t g))
  | 0, _ => rfl
  | t + 1, ht => by
    have b := h.it_lt gm t
    obtain ⟨-, a2, a3, a4, a5, -⟩ := h.2.2.2.1 (itN pr t g) (Nat.pos_of_ne_zero (hD.2 t (by omega))) (by omega)
    refine ⟨kd (itN pr t g), a3, a4, a5, ?_⟩
    have := h.up gm hD t (by omega)
    rw [a2] at this
    exact this
/-- no shorter way -/
theorem BF.short {N : Int} {al : Int → Int → Bool} {nx : Int → Int → Int} {s : Int} {q : Nat → Int} {pr : Nat → Nat} {kd : Nat → Int} {m : Nat} (h : BF N al nx s q pr kd m) {g D : Nat} (gm : g < m) (hD : Dp pr g D) {t L : Nat} (ht : t ≤ D) (r : Rc al nx (q g) L (q (itN pr t g))) : t ≤ L := by
  have b := h.it_lt gm t
  obtain ⟨g', gm', e, le⟩ := h.reach L _ (by omega) r
  have := h.uniq gm' gm e
  subst this
  rcases Nat.lt_or_ge L t with z | z
  · have := h.dec2 gm hD (a := L) (t - L - 1) (by omega)
    rw [show L + (t - L - 1) + 1 = t by omega] at this
    omega
  · exact z
/-- the least step -/
theorem BF.least {N : Int} {al : Int → Int → Bool} {nx : Int → Int → Int} {s : Int} {q : Nat → Int} {pr : Nat → Nat} {kd : Nat → Int} {m : Nat} (h : BF N al nx s q pr kd m) {g D : Nat} (gm : g < m) (hD : Dp pr g D) {t : Nat} (ht : t < D) {k : Int} (k0 : 0 ≤ k) (k1 : k < kd (itN pr t g)) (a : al k (q (itN pr (t + 1) g)) = true) (r : Rc al nx (q g) t (nx k (q (itN pr (t + 1) g)))) : False := by
  have b := h.it_lt gm t
  have b1 := h.it_lt gm (t + 1)
  have p := Nat.pos_of_ne_zero (hD.2 t ht)
  obtain ⟨a1, -, a3, a4, -⟩ := h.2.2.2.1 (itN pr t g) p (by omega)
  obtain ⟨j, jm, e, o⟩ := h.2.2.2.2.2 (itN pr (t + 1) g) k k0 (by omega) (by unfold lxl; omega) (by omega) a
  rw [← e] at r
  obtain ⟨g', gm', e', le⟩ := h.reach t j jm r
  have := h.uniq gm' gm e'
  subst this
  rcases o with o | o
  · subst o; omega
  · have o : lxl (pr j) (kd j) ((pr (itN pr t g') : Nat) : Int) (k + 1) := o
    by_cases z : j = itN pr t g'
    · subst z; unfold lxl at o; omega
    · have := h.2.2.2.2.1 (itN pr t g') j p (by omega) jm
      unfold lxl at this o; omega
