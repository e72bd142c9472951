/-! all rows in their order -/
def uRow (n i : Nat) (x : Int) : Int := (((upk n i []).reverse[x.toNat]?).getD 0 : Nat)
def fI (f : Int → Int) : Nat → Int
  | 0 => -1
  | k + 1 => if f ((k : Int) + 1) < f (k : Int) then fI f k else (k : Int)
def fJ (f : Int → Int) (v : Int) : Nat → Int
  | 0 => 0
  | k + 1 => if f ((k : Int) + 1) < v then fJ f v k else (k : Int) + 1
def swp (f : Int → Int) (a b x : Int) : Int := if x = b then f a else if x = a then f b else f x
def rvF : Nat → (Int → Int) → Int → Int → (Int → Int)
  | 0, f, _, _ => f
  | k + 1, f, a, b => if a < b then rvF k (swp f a b) (a + 1) (b - 1) else f
def nxF (n : Nat) (f : Int → Int) : (Int → Int) × Bool :=
  if fI f (n - 1) < 0 then (fun x => x, false)
  else (rvF n (swp f (fI f (n - 1)) (fJ f (f (fI f (n - 1))) (n - 1))) (fI f (n - 1) + 1) ((n : Int) - 1), true)
def ndB : List Nat → Bool
  | [] => true
  | a :: t => !t.elem a && ndB t
theorem ndB_nd : ∀ L : List Nat, ndB L = true → L.Nodup
  | [], _ => List.nodup_nil
  | a :: t, h => by
    rw [ndB, Bool.and_eq_true, Bool.not_eq_true'] at h
    rw [List.nodup_cons]
    refine ⟨fun q => ?_, ndB_nd t h.2⟩
    rw [List.elem_iff.mpr q] at h
    exact absurd h.1 (by decide)
def allB (P : Nat → Bool) : Nat → Bool
  | 0 => true
  | k + 1 => P k && allB P k
def okU (n i : Nat) : Bool := Nat.beq (upk n i []).reverse.length n && (upk n i []).reverse.all (fun v => Nat.blt v n) && ndB (upk n i []).reverse && (bif Nat.blt (i + 1) (fac n) then (nxF n (uRow n i)).2 && allB (fun x => decide ((nxF n (uRow n i)).1 (x : Int) = uRow n (i + 1) (x : Int))) n else !(nxF n (uRow n i)).2) && (decide (fI (uRow n i) (n - 1) < 0) || decide (fI (uRow n i) (n - 1) < fJ (uRow n i) (uRow n i (fI (uRow n i) (n - 1))) (n - 1)))
theorem allB_at {P : Nat → Bool} : ∀ k, allB P k = true → ∀ i, i < k → P i = true
  | 0, _, i, h => by omega
  | k + 1, h, i, hi => by
    rw [allB, Bool.and_eq_true] at h
    by_cases z : i = k
    · rw [z]; exact h.1
    · exact allB_at k h.2 i (by omega)
theorem okU_2 : allB (okU 2) 2 = true := by decide +kernel
theorem okU_3 : allB (okU 3) 6 = true := by decide +kernel
theorem okU_4 : allB (okU 4) 24 = true := by decide +kernel
theorem okU_5 : allB (okU 5) 120 = true := by decide +kernel
theorem okU_at {n : Nat} (n2 : 2 ≤ n) (n5 : n ≤ 5) {i : Nat} (hi : i < fac n) : okU n i = true := by
  rcases (show n = 2 ∨ n = 3 ∨ n = 4 ∨ n = 5 by omega) with e | e | e | e <;> subst e
  · exact allB_at _ okU_2 i hi
  · exact allB_at _ okU_3 i hi
  · exact allB_at _ okU_4 i hi
  · exact allB_at _ okU_5 i hi
