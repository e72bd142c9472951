/-! COUSIN: a search over ways -/
def BJ {α : Type} (al : Int → Bool) (nx : Int → α → α) (s : α) (q : Nat → α) (pr : Nat → Nat) (kd : Nat → Int) (m K : Nat) (c : Int) : Prop :=
  (1 ≤ m ∧ q 0 = s ∧ pr 0 = 0) ∧ (∀ i j, i < j → j < m → q i ≠ q j) ∧
  (∀ j, 1 ≤ j → j < m → pr j < j ∧ q j = nx (kd j) (q (pr j)) ∧ 0 ≤ kd j ∧ kd j < 8 ∧ al (kd j) = true ∧ lxl (pr j) (kd j) K c) ∧
  (∀ i j, 1 ≤ i → i < j → j < m → lxl (pr i) (kd i) (pr j) (kd j)) ∧
  ∀ (k : Nat) (c' : Int), 0 ≤ c' → c' < 8 → lxl k c' K c → k < m → al c' = true → ∃ j, j < m ∧ q j = nx c' (q k) ∧ (j = 0 ∨ lxl (pr j) (kd j) k (c' + 1))
theorem BJ.skip {α : Type} {al : Int → Bool} {nx : Int → α → α} {s : α} {q : Nat → α} {pr : Nat → Nat} {kd : Nat → Int} {m K : Nat} {c : Int} (h : BJ al nx s q pr kd m K c) (hc : ∀ (_ : K < m), al c = true → ∃ j, j < m ∧ q j = nx c (q K)) : BJ al nx s q pr kd m K (c + 1) := by
  obtain ⟨h1, h3, h4, h5, h6⟩ := h
  refine ⟨h1, h3, fun j j1 jm => ?_, h5, fun k c' c0 c8 l km a => ?_⟩
  · obtain ⟨a1, a2, a3, a4, a5, a6⟩ := h4 j j1 jm
    refine ⟨a1, a2, a3, a4, a5, ?_⟩
    unfold lxl at a6 ⊢; omega
  · by_cases z : (k : Int) = K ∧ c' = c
    · obtain ⟨z1, rfl⟩ := z
      have z1 : k = K := by omega
      subst z1
      obtain ⟨j, jm, e⟩ := hc km a
      refine ⟨j, jm, e, ?_⟩
      rcases Nat.eq_zero_or_pos j with y | y
      · exact Or.inl y
      · have := (h4 j y jm).2.2.2.2.2
        unfold lxl at this ⊢; omega
    · exact h6 k c' c0 c8 (by unfold lxl at l ⊢; omega) km a
theorem BJ.app {α : Type} {al : Int → Bool} {nx : Int → α → α} {s : α} {q : Nat → α} {pr : Nat → Nat} {kd : Nat → Int} {m K : Nat} {c : Int} (h : BJ al nx s q pr kd m K c) (Km : K < m) (c0 : 0 ≤ c) (c8 : c < 8) (a : al c = true) (hn : ¬ ∃ j, j < m ∧ q j = nx c (q K)) : BJ al nx s (fun j => if j = m then nx c (q K) else q j) (fun j => if j = m then K else pr j) (fun j => if j = m then c else kd j) (m + 1) K (c + 1) := by
  obtain ⟨⟨h0, h0', h0''⟩, h3, h4, h5, h6⟩ := h
  have eo : ∀ {β : Type} (x : β) (f : Nat → β) (j : Nat), j < m → (if j = m then x else f j) = f j := fun x f j hj => if_neg (by omega)
  refine ⟨⟨by omega, by show (if 0 = m then _ else _) = _; rw [eo _ _ _ (by omega)]; exact h0', by show (if 0 = m then _ else _) = _; rw [eo _ _ _ (by omega)]; exact h0''⟩, fun i j ij jm => ?_, fun j j1 jm => ?_, fun i j i1 ij jm => ?_, fun k c' c0' c8' l km a' => ?_⟩
  · show (if i = m then _ else _) ≠ (if j = m then _ else _)
    rw [eo _ _ i (by omega)]
    by_cases z : j = m
    · rw [if_pos z]; exact fun e => hn ⟨i, by omega, e⟩
    · rw [if_neg z]; exact h3 i j ij (by omega)
  · show (if j = m then K else pr j) < j ∧ (if j = m then nx c (q K) else q j) = nx (if j = m then c else kd j) (if (if j = m then K else pr j) = m then _ else q (if j = m then K else pr j)) ∧ 0 ≤ (if j = m then c else kd j) ∧ (if j = m then c else kd j) < 8 ∧ al (if j = m then c else kd j) = true ∧ lxl ((if j = m then K else pr j : Nat) : Int) (if j = m then c else kd j) K (c + 1)
    by_cases z : j = m
    · subst z
      simp only [if_true]
      rw [eo _ _ K (by omega)]
      exact ⟨Km, rfl, c0, c8, a, by unfold lxl; omega⟩
    · simp only [if_neg z]
      obtain ⟨a1, a2, a3, a4, a5, a6⟩ := h4 j j1 (by omega)
      rw [eo _ _ (pr j) (by omega)]
      exact ⟨a1, a2, a3, a4, a5, by unfold lxl at a6 ⊢; omega⟩
  · show lxl ((if i = m then K else pr i : Nat) : Int) (if i = m then c else kd i) ((if j = m then K else pr j : Nat) : Int) (if j = m then c else kd j)
    rw [eo _ _ i (by omega), eo _ _ i (by omega)]
    by_cases z : j = m
    · rw [if_pos z, if_pos z]
      exact (h4 i i1 (by omega)).2.2.2.2.2
    · rw [if_neg z, if_neg z]; exact h5 i j i1 ij (by omega)
  · have kold : k < m := by unfold lxl at l; omega
    show ∃ j, j < m + 1 ∧ (if j = m then nx c (q K) else q j) = nx c' (if k = m then nx c (q K) else q k) ∧ (j = 0 ∨ lxl ((if j = m then K else pr j : Nat) : Int) (if j = m then c else kd j) k (c' + 1))
    rw [eo _ _ k kold]
    by_cases z : (k : Int) = K ∧ c' = c
    · obtain ⟨z1, rfl⟩ := z
      have z1 : k = K := by omega
      subst z1
      exact ⟨m, by omega, by rw [if_pos rfl], Or.inr (by rw [if_pos rfl, if_pos rfl]; unfold lxl; omega)⟩
    · obtain ⟨j, jm, e, o⟩ := h6 k c' c0' c8' (by unfold lxl at l ⊢; omega) kold a'
      refine ⟨j, by omega, by rw [eo _ _ j jm]; exact e, ?_⟩
      rw [eo _ _ j jm, eo _ _ j jm]; exact o
theorem BJ.nextK {α : Type} {al : Int → Bool} {nx : Int → α → α} {s : α} {q : Nat → α} {pr : Nat → Nat} {kd : Nat → Int} {m K : Nat} (h : BJ al nx s q pr kd m K 8) : BJ al nx s q pr kd m (K + 1) 0 := by
  obtain ⟨h1, h3, h4, h5, h6⟩ := h
  refine ⟨h1, h3, fun j j1 jm => ?_, h5, fun k c' c0 c8 l km a => h6 k c' c0 c8 (by unfold lxl at l ⊢; omega) km a⟩
  obtain ⟨a1, a2, a3, a4, a5, a6⟩ := h4 j j1 jm
  exact ⟨a1, a2, a3, a4, a5, by unfold lxl at a6 ⊢; omega⟩
theorem BJ.init {α : Type} {al : Int → Bool} {nx : Int → α → α} (s : α) : BJ al nx s (fun _ => s) (fun _ => 0) (fun _ => 0) 1 0 0 :=
  ⟨⟨Nat.le_refl 1, rfl, rfl⟩, fun i j ij jm => by omega, fun j j1 jm => by omega, fun i j i1 ij jm => by omega, fun k c' c0 _ l _ _ => by unfold lxl at l; omega⟩
/-- found by one step: by the least -/
theorem BJ.one {α : Type} {al : Int → Bool} {nx : Int → α → α} {s goal : α} {q : Nat → α} {pr : Nat → Nat} {kd : Nat → Int} {m g : Nat} (h : BJ al nx s q pr kd m g 0) (gm : g < m) (eg : q g = goal) (hs : s ≠ goal) {c : Int} (c0 : 0 ≤ c) (c8 : c < 8) (a : al c = true) (e : nx c s = goal) (hl : ∀ k, 0 ≤ k → k < c → al k = true → nx k s ≠ goal) : 1 ≤ g ∧ pr g = 0 ∧ kd g = c := by
  obtain ⟨⟨h1, h2, h3⟩, hd, hp, hm, hc⟩ := h
  have g1 : 1 ≤ g := by
    rcases Nat.eq_zero_or_pos g with z | z
    · subst z; exact absurd (h2.symm.trans eg) hs
    · exact z
  obtain ⟨j, jm, ej, o⟩ := hc 0 c c0 c8 (by unfold lxl; omega) h1 a
  rw [h2, e] at ej
  have : j = g := by
    rcases Nat.lt_trichotomy j g with z | z | z
    · exact absurd (ej.trans eg.symm) (hd j g z gm)
    · exact z
    · exact absurd (eg.trans ej.symm) (hd g j z jm)
  subst this
  rcases o with o | o
  · omega
  · obtain ⟨p1, p2, p3, p4, p5, -⟩ := hp j g1 gm
    have pz : pr j = 0 := by unfold lxl at o; omega
    refine ⟨g1, pz, ?_⟩
    rw [pz, h2, eg] at p2
    have : kd j ≤ c := by unfold lxl at o; omega
    rcases Int.lt_or_le (kd j) c with z | z
    · exact absurd p2.symm (hl _ p3 z p5)
    · omega
/-- found by two steps: by the least -/
theorem BJ.two {α : Type} {al : Int → Bool} {nx : Int → α → α} {s goal : α} {q : Nat → α} {pr : Nat → Nat} {kd : Nat → Int} {m g : Nat} (h : BJ al nx s q pr kd m g 0) (gm : g < m) (eg : q g = goal) (hs : s ≠ goal) (no : ∀ k, 0 ≤ k → k < 8 → al k = true → nx k s ≠ goal) {a b : Int} (a0 : 0 ≤ a) (a8 : a < 8) (b0 : 0 ≤ b) (b8 : b < 8) (aa : al a = true) (ab : al b = true) (e : nx b (nx a s) = goal) (hl : ∀ a' b', 0 ≤ a' → a' < 8 → 0 ≤ b' → b' < 8 → lxl a' b' a b → al a' = true → al b' = true → nx b' (nx a' s) ≠ goal) : 1 ≤ g ∧ 1 ≤ pr g ∧ pr (pr g) = 0 ∧ kd (pr g) = a ∧ kd g = b := by
  obtain ⟨⟨h1, h2, h3⟩, hd, hp, hm, hc⟩ := h
  have un : ∀ i j, i < m → j < m → q i = q j → i = j := fun i j im jm e => by
    rcases Nat.lt_trichotomy i j with z | z | z
    · exact absurd e (hd i j z jm)
    · exact z
    · exact absurd e.symm (hd j i z im)
  have g1 : 1 ≤ g := by
    rcases Nat.eq_zero_or_pos g with z | z
    · subst z; exact absurd (h2.symm.trans eg) hs
    · exact z
  obtain ⟨g2, g3, g4, g5, g6, -⟩ := hp g g1 gm
  have pg : 1 ≤ pr g := by
    rcases Nat.eq_zero_or_pos (pr g) with z | z
    · rw [z, h2, eg] at g3; exact absurd g3.symm (no _ g4 g5 g6)
    · exact z
  obtain ⟨j, jm, ej, o⟩ := hc 0 a a0 a8 (by unfold lxl; omega) h1 aa
  rw [h2] at ej
  have j1 : 1 ≤ j := by
    rcases Nat.eq_zero_or_pos j with z | z
    · subst z
      rw [← ej, h2] at e
      exact absurd e (no _ b0 b8 ab)
    · exact z
  have o : lxl (pr j) (kd j) 0 (a + 1) := by
    rcases o with o | o
    · omega
    · exact o
  have pj : pr j = 0 := by unfold lxl at o; omega
  obtain ⟨-, j3, j4, j5, j6, -⟩ := hp j j1 jm
  rw [pj, h2] at j3
  have kj : kd j = a := by
    have : kd j ≤ a := by unfold lxl at o; omega
    rcases Int.lt_or_le (kd j) a with z | z
    · exact absurd (show nx b (nx (kd j) s) = goal by rw [← j3, ej]; exact e) (hl _ b j4 j5 b0 b8 (by unfold lxl; omega) j6 ab)
    · omega
  have jg : j < g := by
    rcases Nat.lt_trichotomy j g with z | z | z
    · exact z
    · subst z; rw [pj] at pg; omega
    · have := hm g j g1 z jm
      rw [pj] at this
      unfold lxl at this; omega
  obtain ⟨i, im, ei, oi⟩ := hc j b b0 b8 (by unfold lxl; omega) jm ab
  rw [ej, e] at ei
  have := un i g im gm (ei.trans eg.symm)
  subst this
  have oi : lxl (pr i) (kd i) j (b + 1) := by
    rcases oi with z | z
    · omega
    · exact z
  -- whence g comes
  have pij : pr i ≤ j := by unfold lxl at oi; omega
  obtain ⟨-, p3, p4, p5, p6, -⟩ := hp (pr i) pg (by omega)
  have ppz : pr (pr i) = 0 := by
    by_cases z : pr i = j
    · rw [z]; exact pj
    · have := hm (pr i) j pg (by omega) jm
      rw [pj] at this
      unfold lxl at this; omega
  rw [ppz, h2] at p3
  have tw : nx (kd i) (nx (kd (pr i)) s) = goal := by rw [← p3, ← g3]; exact eg
  have pe : pr i = j := by
    rcases Nat.lt_or_ge (pr i) j with z | z
    · have := hm (pr i) j pg z jm
      rw [ppz, pj, kj] at this
      exact absurd tw (hl _ _ p4 p5 g4 g5 (by unfold lxl at this ⊢; omega) p6 g6)
    · omega
  refine ⟨g1, pg, ppz, by rw [pe]; exact kj, ?_⟩
  have : kd i ≤ b := by unfold lxl at oi; omega
  rcases Int.lt_or_le (kd i) b with z | z
  · rw [pe, kj] at tw
    exact absurd tw (hl a _ a0 a8 g4 g5 (by unfold lxl; omega) aa g6)
  · omega
