/-! rule: names read -/
theorem readsName_sp {τ : Sg} {a : Nat} (ha : SH a = (14, 6)) {d : Nat} {n pl i : Int} {T g : Int → Int} (ht : MT 0 n T τ) (tb : ∀ j, 0 ≤ j → j < n → 0 ≤ T j ∧ T j < 256) (n20 : n ≤ 260) (e8 : τ.1 102 8 = zI pl) (e9 : τ.1 102 9 = zI n) (p0 : 0 ≤ pl) (p1 : pl ≤ n) (i0 : 0 ≤ i) (i6 : i ≤ 6) (hg : ∀ x, 0 ≤ x → x < i → τ.1 a x.toNat = zI (g x) ∧ 0 ≤ g x ∧ g x < 6) :
    (¬ (pl < n ∧ 97 ≤ T pl ∧ T pl ≤ 102 ∧ i < 6) → f_M_readsName (d + 2) a (zI i) τ = rI (zI 0) (sI τ 102 10 (zI (-1000 - pl)))) ∧
    (pl < n ∧ 97 ≤ T pl ∧ T pl ≤ 102 ∧ i < 6 → (∃ x, 0 ≤ x ∧ x < i ∧ g x = T pl - 97) → f_M_readsName (d + 2) a (zI i) τ = rI (zI 0) (sI τ 102 10 (zI (-6000 - pl)))) ∧
    (pl < n ∧ 97 ≤ T pl ∧ T pl ≤ 102 ∧ i < 6 → (¬ ∃ x, 0 ≤ x ∧ x < i ∧ g x = T pl - 97) → f_M_readsName (d + 2) a (zI i) τ = rI (zI 1) (sI τ a i.toNat (zI (T pl - 97)))) := by
  have hc : ∃ c, c = (if pl < n then T pl else -1) ∧ -1 ≤ c ∧ c < 256 := by
    refine ⟨_, rfl, ?_⟩
    by_cases q : pl < n
    · rw [if_pos q]; have := tb pl p0 q; omega
    · rw [if_neg q]; omega
  obtain ⟨c, hc, c0, c1⟩ := hc
  have eh : f_M_here (d + 1) τ = rI (zI c) τ := by
    have := here_sp (d := d) (i := pl) (f := 0) ht (by rw [Int.zero_add]; exact e8) (by rw [Int.zero_add]; exact e9) (by decide) (by omega) p0 p1
    rw [this, hc]
  have e6 : (zI i = 6) = (i = 6) := by rw [show (6 : Int32) = zI 6 from zI_lit 6]; exact zI_eq (by omega) (by decide)
  have start : f_M_readsName (d + 2) a (zI i) τ = if (97 ≤ c ∧ c ≤ 102) ∧ i < 6 then f_M_readsName_36 (d + 1) a (zI i) (zI (c - 97)) (zI 0) τ else rI (zI 0) (sI τ 102 10 (zI (-1000 - pl))) := by
    rw [f_M_readsName_eq, eh, cI_rI, show (97 : Int32) = zI 97 from zI_lit 97, zI_sub, zI_0, show (5 : Int32) = zI 5 from zI_lit 5, in_sp (by omega) (by decide) (by decide), cI_rI, e8, show (1 : Int32) = zI 1 from zI_lit 1]
    have w : ∀ R, cI (f_M_wrongAt (d + 1) (zI 1) (zI pl) τ) (fun v6 σ5 => rZ v6 σ5) = R ↔ rI (zI 0) (sI τ 102 10 (zI (-1000 - pl))) = R := fun R => by
      rw [wrongAt_sp, cI_rI, rZ_z0, show (-1000 * 1 - pl : Int) = -1000 - pl by omega]
    by_cases q : 97 ≤ c ∧ c ≤ 102
    · rw [decide_eq_true (show 0 ≤ c - 97 ∧ c - 97 ≤ 5 by omega), bz_tt, if_neg (by decide)]
      by_cases z : i = 6
      · rw [if_pos (by rw [e6]; exact z), if_neg (by omega)]
        exact (w _).mpr rfl
      · rw [if_neg (by rw [e6]; exact z), if_pos ⟨q, by omega⟩]
    · rw [decide_eq_false (show ¬ (0 ≤ c - 97 ∧ c - 97 ≤ 5) by omega), bz_ff, if_pos rfl, if_neg (fun z => q z.1)]
      exact (w _).mpr rfl
  have loop : ∀ (k : Nat) (x : Int), x + k = i → 0 ≤ x → i < 6 → (97 ≤ c ∧ c ≤ 102) → (∀ y, 0 ≤ y → y < x → g y ≠ c - 97) → ((∃ y, 0 ≤ y ∧ y < i ∧ g y = c - 97) → f_M_readsName_36 (d + 1) a (zI i) (zI (c - 97)) (zI x) τ = rI (zI 0) (sI τ 102 10 (zI (-6000 - pl)))) ∧ ((¬ ∃ y, 0 ≤ y ∧ y < i ∧ g y = c - 97) → f_M_readsName_36 (d + 1) a (zI i) (zI (c - 97)) (zI x) τ = rI (zI 1) (sI τ a i.toNat (zI (c - 97)))) := by
    intro k
    induction k with
    | zero =>
      intro x hx x0 i6' q no
      have : x = i := by omega
      subst this
      refine ⟨fun ⟨y, y0, y1, e⟩ => absurd e (no y y0 y1), fun _ => ?_⟩
      rw [f_M_readsName_36_eq, if_neg Int32.lt_irrefl, stI_of ha x0 (by omega) (by omega), rZ_1]
    | succ k ih =>
      intro x hx x0 i6' q no
      have x1 : x < i := by omega
      obtain ⟨e, b0, b1⟩ := hg x x0 x1
      have st : f_M_readsName_36 (d + 1) a (zI i) (zI (c - 97)) (zI x) τ = if g x = c - 97 then rI (zI 0) (sI τ 102 10 (zI (-6000 - pl))) else f_M_readsName_36 (d + 1) a (zI i) (zI (c - 97)) (zI (x + 1)) τ := by
        rw [f_M_readsName_36_eq, if_pos (by rw [zI_le (by omega) (by omega)]; exact x1), ldi_of ha x0 (by omega) (by omega), e, e8, show (6 : Int32) = zI 6 from zI_lit 6, wrongAt_sp, cI_rI, rZ_z0, show (1 : Int32) = zI 1 from zI_lit 1, zI_add, show (-1000 * 6 - pl : Int) = -6000 - pl by omega]
        by_cases z : g x = c - 97
        · rw [if_pos (congrArg zI z), if_pos z]
        · rw [if_neg (by rw [zI_eq (by omega) (by omega)]; exact z), if_neg z]
      rw [st]
      by_cases z : g x = c - 97
      · rw [if_pos z]
        exact ⟨fun _ => rfl, fun no => absurd ⟨x, x0, x1, z⟩ no⟩
      · rw [if_neg z]
        exact ih (x + 1) (by omega) (by omega) i6' q fun y y0 y1 => by
          by_cases u : y = x
          · subst u; exact z
          · exact no y y0 (by omega)
  refine ⟨fun q => ?_, fun ⟨q1, q2, q3, q4⟩ => ?_, fun ⟨q1, q2, q3, q4⟩ => ?_⟩
  · rw [start, if_neg]
    rintro ⟨z1, z2⟩
    by_cases u : pl < n
    · rw [if_pos u] at hc; exact q ⟨u, by omega, by omega, z2⟩
    · rw [if_neg u] at hc; omega
  · rw [if_pos q1] at hc
    rw [start, if_pos (by omega), ← hc]
    exact (loop i.toNat 0 (by omega) (by decide) q4 (by omega) fun y y0 y1 => by omega).1
  · rw [if_pos q1] at hc
    rw [start, if_pos (by omega), ← hc]
    exact (loop i.toNat 0 (by omega) (by decide) q4 (by omega) fun y y0 y1 => by omega).2
theorem nowE_sp {σ : Sg} {d : Nat} {n i : Int} {T : Int → Int} (h : CT 0 n T σ) (ei : σ.1 5 4 = zI i) (fn : n ≤ 260) (i0 : 0 ≤ i) (i1 : i ≤ n) : f_Tape_now (d + 1) σ = rI (zI (if i < n then T i else -1)) σ := by
  by_cases q : i < n
  · rw [if_pos q]; exact now_sp h ei (by decide) (by omega) i0 q
  · rw [if_neg q, f_Tape_now_eq, ei, h.2.1, if_neg (by rw [zI_le (by omega) (by omega)]; exact q)]; rfl
theorem nameOf_sp {σ : Sg} {d : Nat} {c : Int} (c0 : -1 ≤ c) (c1 : c < 256) : f_N_nameOf (d + 1) (zI c) σ = rI (zI (if 97 ≤ c ∧ c ≤ 102 then c - 97 else -1)) σ := by
  rw [f_N_nameOf_eq, show (97 : Int32) = zI 97 from zI_lit 97, show (102 : Int32) = zI 102 from zI_lit 102, zI_sub]
  by_cases a : c < 97
  · rw [if_pos (by rw [zI_le (by omega) (by decide)]; exact a), if_neg (by omega)]; rfl
  · rw [if_neg (by rw [zI_le (by omega) (by decide)]; exact a)]
    by_cases b : 102 < c
    · rw [if_pos (by rw [zI_le (by decide) (by omega)]; exact b), if_neg (by omega)]; rfl
    · rw [if_neg (by rw [zI_le (by decide) (by omega)]; exact b), if_pos (by omega)]
theorem tfaultZ {σ : Sg} {d : Nat} {a i : Int} (ei : σ.1 5 4 = zI i) : f_Tape_fault (d + 1) (zI a) σ = rI (zI (-1000 * a - i)) σ := by
  rw [f_Tape_fault_eq, ei, show (-1000 : Int32) = zI (-1000) from rfl, zI_mul, zI_sub]
