theorem stat_1 {args : Array Value} {s : State} (hgv : (Jvm.Cond.and given_1 narrow_1).before args s = true) (hts : ∀ w ∈ lw_tbl, w.before args s = true) : ∃ t : Nat, va_T .char t 8 (fun j => .int (FC 1 j)) (fun q => s.heap.size ≤ q) s s.heap ∧ va_Z "NamedToWed" "STEP_LETTERS" "[C" (.ref t) (fun q => s.heap.size ≤ q) s s.heap := by
  have hs := flat_of_before _ hgv
  have hA : ∀ a : Nat, a < s.heap.size → ¬ (fun q => s.heap.size ≤ q) a := fun a h => Nat.not_le.mpr h
  obtain ⟨t, ht, hT⟩ := va_Tof (args := args) (s := s) (tm := (Term.static "NamedToWed" "STEP_LETTERS" "[C")) (ty := .char) (N := 8) (f := fun j => .int (FC 1 j)) (A := fun q => s.heap.size ≤ q) (by decide) (hs (Cond.arrayOf (Term.static "NamedToWed" "STEP_LETTERS" "[C") .char) (by decide +kernel)) (va_eqt (hs (Cond.eq (.length (Term.static "NamedToWed" "STEP_LETTERS" "[C")) (.int 8)) (by decide +kernel))) (fun j hj => by
    match j, hj with
    | 0, _ => exact va_eqt (hs (Cond.eq (.elem (Term.static "NamedToWed" "STEP_LETTERS" "[C") (.int 0)) (.int 102)) (by decide +kernel))
    | 1, _ => exact va_eqt (hs (Cond.eq (.elem (Term.static "NamedToWed" "STEP_LETTERS" "[C") (.int 1)) (.int 109)) (by decide +kernel))
    | 2, _ => exact va_eqt (hs (Cond.eq (.elem (Term.static "NamedToWed" "STEP_LETTERS" "[C") (.int 2)) (.int 104)) (by decide +kernel))
    | 3, _ => exact va_eqt (hs (Cond.eq (.elem (Term.static "NamedToWed" "STEP_LETTERS" "[C") (.int 3)) (.int 119)) (by decide +kernel))
    | 4, _ => exact va_eqt (hs (Cond.eq (.elem (Term.static "NamedToWed" "STEP_LETTERS" "[C") (.int 4)) (.int 115)) (by decide +kernel))
    | 5, _ => exact va_eqt (hs (Cond.eq (.elem (Term.static "NamedToWed" "STEP_LETTERS" "[C") (.int 5)) (.int 100)) (by decide +kernel))
    | 6, _ => exact va_eqt (hs (Cond.eq (.elem (Term.static "NamedToWed" "STEP_LETTERS" "[C") (.int 6)) (.int 98)) (by decide +kernel))
    | 7, _ => exact va_eqt (hs (Cond.eq (.elem (Term.static "NamedToWed" "STEP_LETTERS" "[C") (.int 7)) (.int 122)) (by decide +kernel))
    | n + 8, hj => exact absurd hj (by omega)) hA
  exact ⟨t, hT, va_Zref (hts (Cond.laysStatic "NamedToWed" "STEP_LETTERS" "[C") (spx_in _ (by decide +kernel))) (hts (Cond.initialized "NamedToWed") (by first | exact qs_in (6, 10, 0, 0) (by decide +kernel) | exact qs_in (6, 0, 0, 0) (by decide +kernel) | exact qs_in (6, 12, 0, 0) (by decide +kernel))) ht hA⟩
theorem stat_2 {args : Array Value} {s : State} (hgv : (Jvm.Cond.and given_1 narrow_1).before args s = true) (hts : ∀ w ∈ lw_tbl, w.before args s = true) : ∃ t : Nat, va_T .int t 7 (fun j => .int (FC 2 j)) (fun q => s.heap.size ≤ q) s s.heap ∧ va_Z "NamedToWed$Changes" "FACTORIALS" "[I" (.ref t) (fun q => s.heap.size ≤ q) s s.heap := by
  have hs := flat_of_before _ hgv
  have hA : ∀ a : Nat, a < s.heap.size → ¬ (fun q => s.heap.size ≤ q) a := fun a h => Nat.not_le.mpr h
  obtain ⟨t, ht, hT⟩ := va_Tof (args := args) (s := s) (tm := (Term.static "NamedToWed$Changes" "FACTORIALS" "[I")) (ty := .int) (N := 7) (f := fun j => .int (FC 2 j)) (A := fun q => s.heap.size ≤ q) (by decide) (hs (Cond.arrayOf (Term.static "NamedToWed$Changes" "FACTORIALS" "[I") .int) (by decide +kernel)) (va_eqt (hs (Cond.eq (.length (Term.static "NamedToWed$Changes" "FACTORIALS" "[I")) (.int 7)) (by decide +kernel))) (fun j hj => by
    match j, hj with
    | 0, _ => exact va_eqt (hs (Cond.eq (.elem (Term.static "NamedToWed$Changes" "FACTORIALS" "[I") (.int 0)) (.int 1)) (by decide +kernel))
    | 1, _ => exact va_eqt (hs (Cond.eq (.elem (Term.static "NamedToWed$Changes" "FACTORIALS" "[I") (.int 1)) (.int 1)) (by decide +kernel))
    | 2, _ => exact va_eqt (hs (Cond.eq (.elem (Term.static "NamedToWed$Changes" "FACTORIALS" "[I") (.int 2)) (.int 2)) (by decide +kernel))
    | 3, _ => exact va_eqt (hs (Cond.eq (.elem (Term.static "NamedToWed$Changes" "FACTORIALS" "[I") (.int 3)) (.int 6)) (by decide +kernel))
    | 4, _ => exact va_eqt (hs (Cond.eq (.elem (Term.static "NamedToWed$Changes" "FACTORIALS" "[I") (.int 4)) (.int 24)) (by decide +kernel))
    | 5, _ => exact va_eqt (hs (Cond.eq (.elem (Term.static "NamedToWed$Changes" "FACTORIALS" "[I") (.int 5)) (.int 120)) (by decide +kernel))
    | 6, _ => exact va_eqt (hs (Cond.eq (.elem (Term.static "NamedToWed$Changes" "FACTORIALS" "[I") (.int 6)) (.int 720)) (by decide +kernel))
    | n + 7, hj => exact absurd hj (by omega)) hA
  exact ⟨t, hT, va_Zref (hts (Cond.laysStatic "NamedToWed$Changes" "FACTORIALS" "[I") (spx_in _ (by decide +kernel))) (hts (Cond.initialized "NamedToWed$Changes") (by first | exact qs_in (6, 10, 0, 0) (by decide +kernel) | exact qs_in (6, 0, 0, 0) (by decide +kernel) | exact qs_in (6, 12, 0, 0) (by decide +kernel))) ht hA⟩
theorem stat_3 {args : Array Value} {s : State} (hgv : (Jvm.Cond.and given_1 narrow_1).before args s = true) (hts : ∀ w ∈ lw_tbl, w.before args s = true) : ∃ t : Nat, va_T .char t 8 (fun j => .int (FC 3 j)) (fun q => s.heap.size ≤ q) s s.heap ∧ va_Z "NamedToWed$LawReader" "LETTERS" "[C" (.ref t) (fun q => s.heap.size ≤ q) s s.heap := by
  have hs := flat_of_before _ hgv
  have hA : ∀ a : Nat, a < s.heap.size → ¬ (fun q => s.heap.size ≤ q) a := fun a h => Nat.not_le.mpr h
  obtain ⟨t, ht, hT⟩ := va_Tof (args := args) (s := s) (tm := (Term.static "NamedToWed$LawReader" "LETTERS" "[C")) (ty := .char) (N := 8) (f := fun j => .int (FC 3 j)) (A := fun q => s.heap.size ≤ q) (by decide) (hs (Cond.arrayOf (Term.static "NamedToWed$LawReader" "LETTERS" "[C") .char) (by decide +kernel)) (va_eqt (hs (Cond.eq (.length (Term.static "NamedToWed$LawReader" "LETTERS" "[C")) (.int 8)) (by decide +kernel))) (fun j hj => by
    match j, hj with
    | 0, _ => exact va_eqt (hs (Cond.eq (.elem (Term.static "NamedToWed$LawReader" "LETTERS" "[C") (.int 0)) (.int 110)) (by decide +kernel))
    | 1, _ => exact va_eqt (hs (Cond.eq (.elem (Term.static "NamedToWed$LawReader" "LETTERS" "[C") (.int 1)) (.int 109)) (by decide +kernel))
    | 2, _ => exact va_eqt (hs (Cond.eq (.elem (Term.static "NamedToWed$LawReader" "LETTERS" "[C") (.int 2)) (.int 118)) (by decide +kernel))
    | 3, _ => exact va_eqt (hs (Cond.eq (.elem (Term.static "NamedToWed$LawReader" "LETTERS" "[C") (.int 3)) (.int 107)) (by decide +kernel))
    | 4, _ => exact va_eqt (hs (Cond.eq (.elem (Term.static "NamedToWed$LawReader" "LETTERS" "[C") (.int 4)) (.int 97)) (by decide +kernel))
    | 5, _ => exact va_eqt (hs (Cond.eq (.elem (Term.static "NamedToWed$LawReader" "LETTERS" "[C") (.int 5)) (.int 112)) (by decide +kernel))
    | 6, _ => exact va_eqt (hs (Cond.eq (.elem (Term.static "NamedToWed$LawReader" "LETTERS" "[C") (.int 6)) (.int 116)) (by decide +kernel))
    | 7, _ => exact va_eqt (hs (Cond.eq (.elem (Term.static "NamedToWed$LawReader" "LETTERS" "[C") (.int 7)) (.int 113)) (by decide +kernel))
    | n + 8, hj => exact absurd hj (by omega)) hA
  exact ⟨t, hT, va_Zref (hts (Cond.laysStatic "NamedToWed$LawReader" "LETTERS" "[C") (spx_in _ (by decide +kernel))) (hts (Cond.initialized "NamedToWed$LawReader") (by first | exact qs_in (6, 10, 0, 0) (by decide +kernel) | exact qs_in (6, 0, 0, 0) (by decide +kernel) | exact qs_in (6, 12, 0, 0) (by decide +kernel))) ht hA⟩
theorem arr_known {s : State} {args : Array Value} (hts : ∀ w ∈ lw_tbl, w.before args s = true) : ∀ k : Nat, ∃ cA : ClassId, 12 ≤ k → k < 16 → ArrOfT s cA (aty k) ∧ va_RA s cA (aty k) := by
  intro k
  by_cases h : 12 ≤ k ∧ k < 16
  · have hw : (Cond.arrayClass (aty k)).before args s = true := by
      have := arr_in (k - 12) (by omega)
      rw [show 12 + (k - 12) = k by omega] at this
      exact hts _ (qs_in _ this)
    obtain ⟨cA, kA, comp, h1, h2, h3⟩ := Cond.arrayClass_spec hw
    refine ⟨cA, fun _ _ => ⟨fun n z => ⟨fun k h => (by cases h), kA, h2, comp, h3⟩, ?_⟩⟩
    have : k = 12 ∨ k = 13 ∨ k = 14 ∨ k = 15 := by omega
    rcases this with rfl | rfl | rfl | rfl <;> exact h1
  · exact ⟨0, fun a b => absurd ⟨a, b⟩ h⟩
theorem start_K {s : State} {args : Array Value} (hts : ∀ w ∈ lw_tbl, w.before args s = true) : ∃ (D : va_G) (cy : Nat → ClassId), va_K D vwCl (tyA cy) s := by
  have hc : ∀ x : Nat, ∃ q : ClassId × (Nat → Nat), x < 12 → u_Kn s (ocl x) (kT x) (nf x) q.1 q.2 := by
    intro x
    by_cases h : x < 12
    · obtain ⟨a, b, hk⟩ := u_known (ws := TBg) (s := s) (args := args) (C := ocl x) (T := kT x) (N := nf x) (n := nf x) (fun w hw => hts w (List.mem_filter.mp hw).1) (uws_in x h) (hts _ (qs_in _ (inst_in x h)))
      exact ⟨(a, b), fun _ => hk⟩
    · exact ⟨(0, fun _ => 0), fun h' => absurd h' h⟩
  have ha := arr_known hts
  refine ⟨(fun x => (Classical.choose (hc x)).1, fun x => (Classical.choose (hc x)).2), fun k => Classical.choose (ha k), fun x q hq => ?_, fun k q hq => ?_⟩
  · have hx : x < 12 := (List.getElem?_eq_some_iff.mp hq).1
    rw [vw_at x hx] at hq
    cases hq
    exact Classical.choose_spec (hc x) hx
  · have hk : k < 4 := (List.getElem?_eq_some_iff.mp hq).1
    match k, hk, hq with
    | 0, _, hq => cases hq; exact Classical.choose_spec (ha 12) (by decide) (by decide)
    | 1, _, hq => cases hq; exact Classical.choose_spec (ha 13) (by decide) (by decide)
    | 2, _, hq => cases hq; exact Classical.choose_spec (ha 14) (by decide) (by decide)
    | 3, _, hq => cases hq; exact Classical.choose_spec (ha 15) (by decide) (by decide)
