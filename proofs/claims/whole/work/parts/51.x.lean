theorem wAdd_k {i k : Int} {W W' : WS} (h : WSk i W) (i0 : 0 ≤ i) (k0 : 0 ≤ k) (k1 : k < 8) (e : wAdd W i k = Sum.inr W') : WSk (i + 1) W' := by
  obtain ⟨t0, t1⟩ := wTimes_bd h
  obtain ⟨s0, s1⟩ := h.s
  unfold wAdd at e
  split at e
  · cases e
  · rename_i q
    obtain rfl := (Sum.inr.inj e).symm
    refine ⟨⟨by show 0 ≤ W.size + wTimes W; omega, by show W.size + wTimes W ≤ 24; omega⟩, h.o, Or.inl rfl, fun x x0 x1 => ?_, fun x x0 x1 => ?_, fun _ x x0 x1 => ?_⟩
    · show 0 ≤ (if x < W.size then W.st x else k) ∧ (if x < W.size then W.st x else k) < 8 ∧ 0 ≤ (if x < W.size then W.pl x else i) ∧ (if x < W.size then W.pl x else i) < i + 1
      by_cases z : x < W.size
      · rw [if_pos z, if_pos z]; have := h.x x x0 z; omega
      · rw [if_neg z, if_neg z]; omega
    · obtain ⟨a, b, c, d, e, f⟩ := h.y x x0 x1
      show 0 ≤ W.oa x ∧ W.oa x < i + 1 ∧ 1 ≤ W.ot x ∧ W.ot x ≤ 9 ∧ 0 ≤ W.os x ∧ W.os x ≤ W.size + wTimes W
      omega
    · obtain ⟨a, b, c, d, e, f⟩ := h.y x x0 x1
      show W.os x < W.size + wTimes W
      omega
theorem wOpen_k {i : Int} {W W' : WS} (h : WSk i W) (i0 : 0 ≤ i) (e : wOpen W i = Sum.inr W') : WSk (i + 1) W' := by
  obtain ⟨t0, t1⟩ := wTimes_bd h
  obtain ⟨a0, a1⟩ := wStart_bd h i0
  obtain ⟨s0, s1⟩ := h.s
  obtain ⟨o0, o1⟩ := h.o
  unfold wOpen at e
  split at e
  · cases e
  · rename_i q
    obtain rfl := (Sum.inr.inj e).symm
    refine ⟨⟨s0, s1⟩, ⟨by show 0 ≤ W.op + 1; omega, by show W.op + 1 ≤ 2; omega⟩, Or.inl rfl, fun x x0 x1 => ?_, fun x x0 x1 => ?_, fun z => by cases z⟩
    · obtain ⟨a, b, c, d⟩ := h.x x x0 x1
      exact ⟨a, b, c, by show W.pl x < i + 1; omega⟩
    · have x1 : x < W.op + 1 := x1
      show 0 ≤ (if x = W.op then wStart W i else W.oa x) ∧ (if x = W.op then wStart W i else W.oa x) < i + 1 ∧ 1 ≤ (if x = W.op then wTimes W else W.ot x) ∧ (if x = W.op then wTimes W else W.ot x) ≤ 9 ∧ 0 ≤ (if x = W.op then W.size else W.os x) ∧ (if x = W.op then W.size else W.os x) ≤ W.size
      by_cases z : x = W.op
      · rw [if_pos z, if_pos z, if_pos z]; omega
      · rw [if_neg z, if_neg z, if_neg z]; have := h.y x x0 (by omega); omega
theorem wLast_bd {i : Int} {W : WS} (h : WSk i W) (o : 1 ≤ W.op) : 0 ≤ W.os (W.op - 1) ∧ W.os (W.op - 1) ≤ W.size ∧ W.size ≤ wLast W ∧ wLast W ≤ 1000 := by
  obtain ⟨a, b, c, d, e, f⟩ := h.y (W.op - 1) (by omega) (by omega)
  obtain ⟨s0, s1⟩ := h.s
  unfold wLast
  have m1 : (W.size - W.os (W.op - 1)) * 1 ≤ (W.size - W.os (W.op - 1)) * W.ot (W.op - 1) := Int.mul_le_mul_of_nonneg_left c (by omega)
  have m2 : (W.size - W.os (W.op - 1)) * W.ot (W.op - 1) ≤ (W.size - W.os (W.op - 1)) * 9 := Int.mul_le_mul_of_nonneg_left d (by omega)
  omega
theorem wPop_k {i : Int} {W W' : WS} (h : WSk i W) (i0 : 0 ≤ i) (o : 1 ≤ W.op) (u : W.due = false) (e : wPop W = Sum.inr W') : WSk (i + 1) W' := by
  obtain ⟨l0, l1, l2, l3⟩ := wLast_bd h o
  obtain ⟨s0, s1⟩ := h.s
  obtain ⟨o0, o1⟩ := h.o
  have lz := h.z u (W.op - 1) (by omega) (by omega)
  unfold wPop at e
  split at e
  · cases e
  · rename_i q
    obtain rfl := (Sum.inr.inj e).symm
    refine ⟨⟨by show 0 ≤ wLast W; omega, by show wLast W ≤ 24; omega⟩, ⟨by show 0 ≤ W.op - 1; omega, by show W.op - 1 ≤ 2; omega⟩, ?_, fun x x0 x1 => ?_, fun x x0 x1 => ?_, fun _ x x0 x1 => ?_⟩
    · rcases h.d with z | z
      · exact Or.inl z
      · exact Or.inr ⟨z.1, z.2.1, by omega⟩
    · have x1 : x < wLast W := x1
      show 0 ≤ wrep W.st (W.os (W.op - 1)) (W.size - W.os (W.op - 1)) x ∧ wrep W.st (W.os (W.op - 1)) (W.size - W.os (W.op - 1)) x < 8 ∧ 0 ≤ wrep W.pl (W.os (W.op - 1)) (W.size - W.os (W.op - 1)) x ∧ wrep W.pl (W.os (W.op - 1)) (W.size - W.os (W.op - 1)) x < i + 1
      unfold wrep
      by_cases z : x < W.os (W.op - 1) + (W.size - W.os (W.op - 1))
      · rw [if_pos z, if_pos z]; have := h.x x x0 (by omega); omega
      · rw [if_neg z, if_neg z]
        have b0 := Int.emod_nonneg (x - W.os (W.op - 1)) (b := W.size - W.os (W.op - 1)) (by omega)
        have b1 := Int.emod_lt_of_pos (x - W.os (W.op - 1)) (b := W.size - W.os (W.op - 1)) (by omega)
        have := h.x (W.os (W.op - 1) + (x - W.os (W.op - 1)) % (W.size - W.os (W.op - 1))) (by omega) (by omega)
        omega
    · have x1 : x < W.op - 1 := x1
      obtain ⟨a, b, c, d, e, f⟩ := h.y x x0 (by omega)
      show 0 ≤ W.oa x ∧ W.oa x < i + 1 ∧ 1 ≤ W.ot x ∧ W.ot x ≤ 9 ∧ 0 ≤ W.os x ∧ W.os x ≤ wLast W
      omega
    · have x1 : x < W.op - 1 := x1
      have := h.z u x x0 (by omega)
      show W.os x < wLast W
      omega
theorem wByte_k {i c : Int} {W W' : WS} (h : WSk i W) (i0 : 0 ≤ i) (e : wByte W i c = Sum.inr W') : WSk (i + 1) W' := by
  unfold wByte at e
  split at e
  · exact wOpen_k h i0 e
  split at e
  · split at e
    · cases e
    · rename_i q
      have o := h.o
      have o1 : 1 ≤ W.op := by
        have : ¬ W.op = 0 := fun z => q (Or.inl z)
        omega
      have u : W.due = false := by
        cases z : W.due with
        | false => rfl
        | true => exact absurd (Or.inr (Or.inl z)) q
      exact wPop_k h i0 o1 u e
  split at e
  · rename_i q
    obtain rfl := (Sum.inr.inj e).symm
    refine ⟨h.s, h.o, Or.inr ⟨by show 2 ≤ c - 48; omega, by show c - 48 ≤ 9; omega, by omega⟩, fun x x0 x1 => ?_, fun x x0 x1 => ?_, h.z⟩
    · obtain ⟨a, b, c, d⟩ := h.x x x0 x1
      exact ⟨a, b, c, by show W.pl x < i + 1; omega⟩
    · obtain ⟨a, b, c, d⟩ := h.y x x0 x1
      exact ⟨a, by show W.oa x < i + 1; omega, c, d⟩
  split at e
  · cases e
  · rename_i q
    have := kOf_bd c
    exact wAdd_k h i0 (by omega) this.2 e
/-! the class reads a word -/
def SWo (a b _k : Nat) : Bool := b == a || b == a + 1 || b == a + 2 || b == a + 3 || b == a + 4 || b == a + 5
theorem isW.s0 {a : Nat} (h : isW a) : (SH a).1 = 9 := by rcases h with rfl | rfl <;> rfl
theorem startHere_sp {σ : Sg} {a : Nat} {W : WS} (ha : isW a) (h : CW a W σ) {d : Nat} {i : Int} (ei : σ.1 5 4 = zI i) (i0 : 0 ≤ i) (i1 : i < 1000) (wd : 0 ≤ W.digit ∧ W.digit < 10) : f_Word_startHere (d + 1) a σ = rI (zI (wStart W i)) σ := by
  rw [f_Word_startHere_eq, gfI_of ha.s0, h.2.2.1, zI_0, ei]
  unfold wStart
  by_cases z : W.digit = 0
  · rw [if_pos (congrArg zI z), if_pos z]
  · rw [if_neg (by rw [zI_eq (by omega) (by decide)]; exact z), if_neg z, show (1 : Int32) = zI 1 from zI_lit 1, zI_sub]
theorem timesHere_sp {σ : Sg} {a : Nat} {W : WS} (ha : isW a) (h : CW a W σ) {d : Nat} (wd : 0 ≤ W.digit ∧ W.digit < 10) : f_Word_timesHere (d + 1) a σ = rI (zI (wTimes W)) (sI σ a 7 (zI 0)) := by
  rw [f_Word_timesHere_eq, gfI_of ha.s0, h.2.2.1, zI_0, pfI_of ha.s0, show (1 : Int32) = zI 1 from zI_lit 1, mxI_zI (by omega) (by omega) (by decide) (by decide)]
  rfl
