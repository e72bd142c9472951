/-! the start -/
def chkz (a : Nat) (k : Nat) (v : Int) : Bool := decide (σ0.1 a k = zI v)
def chkr (a k v : Nat) : Bool := Nat.beq (σ0.2.2 a k) v
def chkS : Bool := chkz 5 1 0 && chkz 102 7 0 && chkz 7 0 0 && chkz 102 5 0 && chkz 17 0 0 && chkz 102 69 0 && chkz 17 8 0 && chkz 17 9 0 && chkz 33 0 0 && chkz 102 16 0 && chkz 4 17 0 && chkz 102 83 0 && chkz 87 3 0 && chkz 87 4 1 && chkz 103 18 0 && chkz 103 19 1 && ([0, 1, 2, 3, 4, 5].all fun x => chkz 88 x 0 && chkz 89 x 0 && chkz 90 x 0 && chkz 103 x 0 && chkz 103 (6 + x) 0 && chkz 103 (12 + x) 0) && chkr 4 1 7 && chkr 4 2 12 && chkr 4 3 17 && chkr 4 4 25 && chkr 4 5 33 && chkr 4 6 41 && chkr 61 7 67 && chkr 61 8 68
theorem chkS_ok : chkS = true := by decide +kernel
theorem start_inv : Inv 7 17 33 σ0 := by
  have h := chkS_ok
  unfold chkS at h
  simp only [Bool.and_eq_true, List.all_eq_true] at h
  obtain ⟨⟨⟨⟨⟨⟨⟨⟨⟨⟨⟨⟨⟨⟨⟨⟨⟨⟨⟨⟨⟨⟨⟨⟨h1, h2⟩, h3⟩, h4⟩, h5⟩, h6⟩, h7⟩, h8⟩, h9⟩, h10⟩, h11⟩, h12⟩, h13⟩, h14⟩, h15⟩, h16⟩, h17⟩, r1⟩, r2⟩, r3⟩, r4⟩, r5⟩, r6⟩, r7⟩, r8⟩ := h
  have z : ∀ {a k : Nat} {v : Int}, chkz a k v = true → σ0.1 a k = zI v := fun h => of_decide_eq_true h
  have q : ∀ {a k v : Nat}, chkr a k v = true → σ0.2.2 a k = v := fun h => Nat.eq_of_beq_eq_true h
  have g : ∀ {a k : Nat} {v : Int}, chkz a k v = true → -2147483648 ≤ v → v < 2147483648 → rd σ0 a (k : Int) = v := fun h a b => rd_of (z h) a b
  have x17 : ∀ x : Nat, x < 6 → (((((chkz 88 x 0 = true ∧ chkz 89 x 0 = true) ∧ chkz 90 x 0 = true) ∧ chkz 103 x 0 = true) ∧ chkz 103 (6 + x) 0 = true) ∧ chkz 103 (12 + x) 0 = true) := fun x hx => by
    refine h17 x ?_
    rcases (show x = 0 ∨ x = 1 ∨ x = 2 ∨ x = 3 ∨ x = 4 ∨ x = 5 by omega) with rfl | rfl | rfl | rfl | rfl | rfl <;> simp
  have f1 : rd σ0 5 1 = 0 := g h1 (by decide) (by decide)
  have f2 : rd σ0 102 7 = 0 := g h2 (by decide) (by decide)
  have f3 : rd σ0 7 0 = 0 := g h3 (by decide) (by decide)
  have f4 : rd σ0 102 5 = 0 := g h4 (by decide) (by decide)
  have f5 : rd σ0 17 0 = 0 := g h5 (by decide) (by decide)
  have f6 : rd σ0 102 69 = 0 := g h6 (by decide) (by decide)
  have f9 : rd σ0 33 0 = 0 := g h9 (by decide) (by decide)
  have f10 : rd σ0 102 16 = 0 := g h10 (by decide) (by decide)
  have f11 : rd σ0 4 17 = 0 := g h11 (by decide) (by decide)
  have f12 : rd σ0 102 83 = 0 := g h12 (by decide) (by decide)
  have f13 : rd σ0 87 3 = 0 := g h13 (by decide) (by decide)
  have f14 : rd σ0 87 4 = 1 := g h14 (by decide) (by decide)
  have f15 : rd σ0 103 18 = 0 := g h15 (by decide) (by decide)
  have f16 : rd σ0 103 19 = 1 := g h16 (by decide) (by decide)
  refine ⟨⟨Or.inl rfl, Or.inl rfl, Or.inl rfl, q r1, q r2, q r3, q r4, q r5, q r6, Or.inl ⟨q r7, q r8⟩⟩, ?_, ?_, ?_, ?_, ?_, ?_, ?_⟩
  · unfold ITape
    rw [f1, f2]
    exact ⟨by decide, by decide, rfl, fun k k0 k1 => by omega⟩
  · unfold IRule
    rw [f3]
    exact ⟨⟨Or.inl rfl, f3, by decide, fun x x0 x1 => by omega⟩, Or.inl rfl, f4, fun x x0 x1 => by omega⟩
  · unfold IRoll
    rw [f3, f5, f6, z h7, z h8]
    refine ⟨⟨by decide, by decide, fun x x0 x1 => by omega⟩, rfl, fun x x0 x1 => by omega, fun x y x0 x1 => by omega, fun y y0 y1 => ?_⟩
    rw [gb_0, decide_eq_false (by omega), decide_eq_false (by omega)]
    exact ⟨rfl, rfl⟩
  · unfold ILaw
    rw [f9, f10]
    exact ⟨by decide, by decide, rfl, fun i i0 i1 => by omega⟩
  · unfold IHou
    rw [f5]
    exact ⟨fun x x0 x1 => by omega, fun x x0 x1 => by omega⟩
  · have vv : ∀ x : Int, 0 ≤ x → x < 6 → rd σ0 88 x = 0 ∧ rd σ0 89 x = 0 ∧ rd σ0 90 x = 0 ∧ rd σ0 103 x = 0 ∧ rd σ0 103 (6 + x) = 0 ∧ rd σ0 103 (12 + x) = 0 := fun x x0 x6 => by
      obtain ⟨⟨⟨⟨⟨k1, k2⟩, k3⟩, k4⟩, k5⟩, k6⟩ := x17 x.toNat (by omega)
      refine ⟨rd_of (z k1) (by decide) (by decide), rd_of (z k2) (by decide) (by decide), rd_of (z k3) (by decide) (by decide), rd_of (z k4) (by decide) (by decide), rd_of ?_ (by decide) (by decide), rd_of ?_ (by decide) (by decide)⟩
      · rw [show (6 + x).toNat = 6 + x.toNat by omega]; exact z k5
      · rw [show (12 + x).toNat = 12 + x.toNat by omega]; exact z k6
    unfold IVil VOk VEq
    rw [f13, f14, f15, f16]
    refine ⟨⟨fun x x0 x6 => ?_, by decide, by decide, by decide, by decide⟩, fun x x0 x6 => ?_, rfl, rfl⟩
    · obtain ⟨k1, k2, k3, -⟩ := vv x x0 x6
      rw [k1, k2, k3]
      exact ⟨by decide, by decide, by decide, by decide, by decide, by decide, fun _ => ⟨rfl, rfl, rfl⟩⟩
    · obtain ⟨k1, k2, k3, k4, k5, k6⟩ := vv x x0 x6
      rw [k1, k2, k3, k4, k5, k6]
      exact ⟨rfl, rfl, rfl⟩
  · unfold IKep
    rw [f11, f12]
    exact ⟨Or.inl rfl, rfl, fun y => absurd y (by decide)⟩
/-- the law's loop over the small machine comes to 1 -/
theorem law_pure (L : Nat) (hL : L ≤ 3072) (xs : Nat → Int32) : ∃ σ' : Sg, evAt (L + 1, xs) (ev 100) cd_L (jmp cd_L 18) [.ref 0, .ref 4, .ref 102, .int 0] [] σ0 = some (some (.int 1), σ') := by
  have h := law_loop hL xs (L + 6) 0 σ0 7 17 33 (by omega) (by decide) (by omega) start_inv
  rw [← zI_0] at h
  exact h
