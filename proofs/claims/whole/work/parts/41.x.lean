/-! how many bits -/
def nN (v : Int32) : Nat := v.toBitVec.toNat
theorem nN_and (a b : Int32) : nN (a &&& b) = nN a &&& nN b := by unfold nN; rw [Int32.toBitVec_and, BitVec.toNat_and]
theorem nN_add {a b : Int32} (h : nN a + nN b < 4294967296) : nN (a + b) = nN a + nN b := by
  unfold nN at *; rw [Int32.toBitVec_add, BitVec.toNat_add]; omega
theorem nN_sub {a b : Int32} (h : nN b ≤ nN a) : nN (a - b) = nN a - nN b := by
  have h1 : nN a < 4294967296 := a.toBitVec.isLt
  unfold nN at *; rw [Int32.toBitVec_sub, BitVec.toNat_sub]; omega
def bcS (v k : Int32) : Int32 := (v.toUInt32 >>> (k.toUInt32 &&& Int32.toUInt32 31)).toInt32
theorem bcS_N (v : Int32) : nN (bcS v 1) = nN v / 2 ∧ nN (bcS v 2) = nN v / 4 ∧ nN (bcS v 4) = nN v / 16 ∧ nN (bcS v 8) = nN v / 256 ∧ nN (bcS v 16) = nN v / 65536 := by
  have g : ∀ k : UInt32, nN (v.toUInt32 >>> k).toInt32 = nN v >>> (k.toBitVec.toNat % 32) := fun k => by
    show (v.toUInt32 >>> k).toBitVec.toNat = _
    rw [UInt32.toBitVec_shiftRight]
    show (v.toUInt32.toBitVec >>> (k.toBitVec % 32)).toNat = _
    rw [BitVec.ushiftRight_eq', BitVec.toNat_ushiftRight, BitVec.toNat_umod]
    rfl
  refine ⟨?_, ?_, ?_, ?_, ?_⟩
  · show nN (v.toUInt32 >>> _).toInt32 = _
    rw [g]; exact Nat.shiftRight_eq_div_pow _ _
  · show nN (v.toUInt32 >>> _).toInt32 = _
    rw [g]; exact Nat.shiftRight_eq_div_pow _ _
  · show nN (v.toUInt32 >>> _).toInt32 = _
    rw [g]; exact Nat.shiftRight_eq_div_pow _ _
  · show nN (v.toUInt32 >>> _).toInt32 = _
    rw [g]; exact Nat.shiftRight_eq_div_pow _ _
  · show nN (v.toUInt32 >>> _).toInt32 = _
    rw [g]; exact Nat.shiftRight_eq_div_pow _ _
def bc1 (s : Int32) : Int32 := s - (bcS s 1 &&& 1431655765)
def bc2 (s : Int32) : Int32 := (bc1 s &&& 858993459) + (bcS (bc1 s) 2 &&& 858993459)
def bc3 (s : Int32) : Int32 := (bc2 s + bcS (bc2 s) 4) &&& 252645135
def bc4 (s : Int32) : Int32 := bc3 s + bcS (bc3 s) 8
def bc5 (s : Int32) : Int32 := (bc4 s + bcS (bc4 s) 16) &&& 63
theorem bc_eq (d : Nat) (s : Int32) (σ : Sg) : f_Integer_bitCount (d + 1) s σ = rI (bc5 s) σ := f_Integer_bitCount_eq d s σ
theorem and_8 {a m q r : Nat} (ha : a < 256) (hm : m < 256) : (a + 256 * q) &&& (m + 256 * r) = (a &&& m) + 256 * (q &&& r) := by
  have hl : a &&& m < 256 := Nat.lt_of_le_of_lt Nat.and_le_left ha
  apply Nat.eq_of_testBit_eq
  intro j
  rw [Nat.testBit_and, Nat.add_comm a, Nat.add_comm m, Nat.add_comm (a &&& m), show (256 : Nat) = 2 ^ 8 from rfl, Nat.testBit_two_pow_mul_add _ ha, Nat.testBit_two_pow_mul_add _ hm, Nat.testBit_two_pow_mul_add _ hl]
  split
  · rw [Nat.testBit_and]
  · rw [Nat.testBit_and]
theorem by1 : ∀ b : Fin 256, ∀ t : Fin 2, (b.val / 2 + 128 * t.val) &&& 85 = b.val / 2 &&& 85 ∧ (b.val / 2 &&& 85) ≤ b.val ∧ b.val - (b.val / 2 &&& 85) ≤ 170 := by decide +kernel
theorem by2 : ∀ c : Fin 256, ∀ t : Fin 4, (c.val / 4 + 64 * t.val) &&& 51 = c.val / 4 &&& 51 := by decide +kernel
theorem by2b : ∀ c : Fin 171, (c.val &&& 51) + (c.val / 4 &&& 51) < 256 := by decide +kernel
def popN (b : Nat) : Nat := b % 2 + b / 2 % 2 + b / 4 % 2 + b / 8 % 2 + b / 16 % 2 + b / 32 % 2 + b / 64 % 2 + b / 128 % 2
def e2N (b : Nat) : Nat := ((b - (b / 2 &&& 85)) &&& 51) + ((b - (b / 2 &&& 85)) / 4 &&& 51)
theorem by3 : ∀ b : Fin 256, e2N b.val ≤ 68 ∧ e2N b.val % 16 ≤ 4 ∧ ∀ t : Fin 16, (e2N b.val + e2N b.val / 16 + 16 * t.val) &&& 15 = popN b.val := by decide +kernel
theorem by3p : ∀ b : Fin 256, popN b.val ≤ 8 := by decide +kernel
theorem bc_end {a b c : Nat} (ha : a ≤ 8) (hb : b ≤ 8) (hc : c ≤ 8) : ((a + b) + 256 * ((b + c) + 256 * c) + ((a + b) + 256 * ((b + c) + 256 * c)) / 65536) % 64 = a + b + c := by
  have : ((a + b) + 256 * ((b + c) + 256 * c)) / 65536 = c := by omega
  rw [this]; omega
theorem bc_N {s : Int32} {b0 b1 b2 : Nat} (h0 : b0 < 256) (h1 : b1 < 256) (h2 : b2 < 256) (hs : nN s = b0 + 256 * (b1 + 256 * b2)) : nN (bc5 s) = popN b0 + popN b1 + popN b2 := by
  have S := bcS_N
  have q0 := by1 ⟨b0, h0⟩ ⟨b1 % 2, by omega⟩; have q1 := by1 ⟨b1, h1⟩ ⟨b2 % 2, by omega⟩; have q2 := by1 ⟨b2, h2⟩ ⟨0, by omega⟩
  simp only at q0 q1 q2
  -- one
  have y1 : nN (bcS s 1 &&& 1431655765) = (b0 / 2 &&& 85) + 256 * ((b1 / 2 &&& 85) + 256 * (b2 / 2 &&& 85)) := by
    rw [nN_and, (S s).1, hs, show nN 1431655765 = 85 + 256 * (85 + 256 * (85 + 256 * 85)) from rfl, show (b0 + 256 * (b1 + 256 * b2)) / 2 = (b0 / 2 + 128 * (b1 % 2)) + 256 * ((b1 / 2 + 128 * (b2 % 2)) + 256 * ((b2 / 2 + 128 * 0) + 256 * 0)) by omega, and_8 (by omega) (by omega), and_8 (by omega) (by omega), and_8 (by omega) (by omega), q0.1, q1.1, q2.1]
    simp
  have z1 : nN (bc1 s) = (b0 - (b0 / 2 &&& 85)) + 256 * ((b1 - (b1 / 2 &&& 85)) + 256 * (b2 - (b2 / 2 &&& 85))) := by
    unfold bc1; rw [nN_sub (by rw [y1, hs]; omega), y1, hs]; omega
  generalize hc0 : b0 - (b0 / 2 &&& 85) = c0 at z1 q0
  generalize hc1 : b1 - (b1 / 2 &&& 85) = c1 at z1 q1
  generalize hc2 : b2 - (b2 / 2 &&& 85) = c2 at z1 q2
  -- two
  have p0 := by2 ⟨c0, by omega⟩ ⟨c1 % 4, by omega⟩; have p1 := by2 ⟨c1, by omega⟩ ⟨c2 % 4, by omega⟩; have p2 := by2 ⟨c2, by omega⟩ ⟨0, by omega⟩
  simp only at p0 p1 p2
  have t0 := by2b ⟨c0, by omega⟩; have t1 := by2b ⟨c1, by omega⟩; have t2 := by2b ⟨c2, by omega⟩
  simp only at t0 t1 t2
  have m33 : nN 858993459 = 51 + 256 * (51 + 256 * (51 + 256 * 51)) := rfl
  have y2 : nN (bc1 s &&& 858993459) = (c0 &&& 51) + 256 * ((c1 &&& 51) + 256 * (c2 &&& 51)) := by
    rw [nN_and, z1, m33, and_8 (by omega) (by omega), and_8 (by omega) (by omega), show c2 = c2 + 256 * 0 by omega, and_8 (by omega) (by omega)]; simp
  have y3 : nN (bcS (bc1 s) 2 &&& 858993459) = (c0 / 4 &&& 51) + 256 * ((c1 / 4 &&& 51) + 256 * (c2 / 4 &&& 51)) := by
    rw [nN_and, (S _).2.1, z1, m33, show (c0 + 256 * (c1 + 256 * c2)) / 4 = (c0 / 4 + 64 * (c1 % 4)) + 256 * ((c1 / 4 + 64 * (c2 % 4)) + 256 * ((c2 / 4 + 64 * 0) + 256 * 0)) by omega, and_8 (by omega) (by omega), and_8 (by omega) (by omega), and_8 (by omega) (by omega), p0, p1, p2]; simp
  have z2 : nN (bc2 s) = e2N b0 + 256 * (e2N b1 + 256 * e2N b2) := by
    unfold bc2 e2N; rw [hc0, hc1, hc2, nN_add (by rw [y2, y3]; omega), y2, y3]; omega
  obtain ⟨r0, r0', r0f⟩ := by3 ⟨b0, h0⟩; obtain ⟨r1, r1', r1f⟩ := by3 ⟨b1, h1⟩; obtain ⟨r2, r2', r2f⟩ := by3 ⟨b2, h2⟩
  simp only at r0 r0' r1 r1' r2 r2'
  have u0 := r0f ⟨e2N b1 % 16, by omega⟩; have u1 := r1f ⟨e2N b2 % 16, by omega⟩; have u2 := r2f ⟨0, by omega⟩
  simp only at u0 u1 u2
  generalize e2N b0 = e0 at *
  generalize e2N b1 = e1 at *
  generalize e2N b2 = e2 at *
  have g0 := by3p ⟨b0, h0⟩; have g1 := by3p ⟨b1, h1⟩; have g2 := by3p ⟨b2, h2⟩
  simp only at g0 g1 g2
  -- three
  have z3 : nN (bc3 s) = popN b0 + 256 * (popN b1 + 256 * popN b2) := by
    unfold bc3
    rw [nN_and, nN_add (by rw [(S _).2.2.1, z2]; omega), (S _).2.2.1, z2, show nN 252645135 = 15 + 256 * (15 + 256 * (15 + 256 * 15)) from rfl]
    rw [show e0 + 256 * (e1 + 256 * e2) + (e0 + 256 * (e1 + 256 * e2)) / 16 = (e0 + e0 / 16 + 16 * (e1 % 16)) + 256 * ((e1 + e1 / 16 + 16 * (e2 % 16)) + 256 * ((e2 + e2 / 16 + 16 * 0) + 256 * 0)) by omega, and_8 (by omega) (by omega), and_8 (by omega) (by omega), and_8 (by omega) (by omega), u0, u1, u2]; simp
  have z4 : nN (bc4 s) = (popN b0 + popN b1) + 256 * ((popN b1 + popN b2) + 256 * popN b2) := by
    unfold bc4; rw [nN_add (by rw [(S _).2.2.2.1, z3]; omega), (S _).2.2.2.1, z3]; omega
  unfold bc5
  rw [nN_and, nN_add (by rw [(S _).2.2.2.2, z4]; omega), (S _).2.2.2.2, z4, show nN 63 = 2 ^ 6 - 1 from rfl, Nat.and_two_pow_sub_one_eq_mod]
  exact bc_end g0 g1 g2
theorem gb_N (s : Int32) (k : Nat) : gb s (k : Int) = decide (nN s / 2 ^ k % 2 = 1) := by
  unfold gb nN
  rw [show ((k : Nat) : Int).toNat = k by omega, ← BitVec.testBit_toNat, Nat.testBit_eq_decide_div_mod_eq]
theorem bit_if (s : Int32) (k : Nat) : (if gb s (k : Int) = true then (1 : Int) else 0) = ((nN s / 2 ^ k % 2 : Nat) : Int) := by
  rw [gb_N]
  have : nN s / 2 ^ k % 2 < 2 := Nat.mod_lt _ (by decide)
  by_cases q : nN s / 2 ^ k % 2 = 1
  · rw [decide_eq_true q, if_pos rfl, q]; rfl
  · rw [decide_eq_false q, if_neg Bool.false_ne_true]; omega
theorem nN_24 {s : Int32} (h : ∀ k : Int, 24 ≤ k → k < 32 → gb s k = false) : nN s < 16777216 := by
  have h1 : nN s < 4294967296 := s.toBitVec.isLt
  have g : ∀ k : Nat, 24 ≤ k → k < 32 → nN s / 2 ^ k % 2 ≠ 1 := fun k k0 k1 e => by
    have := h (k : Int) (by omega) (by omega)
    rw [gb_N, decide_eq_true e] at this
    cases this
  have g24 := g 24 (by decide) (by decide); have g25 := g 25 (by decide) (by decide); have g26 := g 26 (by decide) (by decide); have g27 := g 27 (by decide) (by decide)
  have g28 := g 28 (by decide) (by decide); have g29 := g 29 (by decide) (by decide); have g30 := g 30 (by decide) (by decide); have g31 := g 31 (by decide) (by decide)
  simp only [show 2 ^ 24 = 16777216 from rfl, show 2 ^ 25 = 33554432 from rfl, show 2 ^ 26 = 67108864 from rfl, show 2 ^ 27 = 134217728 from rfl, show 2 ^ 28 = 268435456 from rfl, show 2 ^ 29 = 536870912 from rfl, show 2 ^ 30 = 1073741824 from rfl, show 2 ^ 31 = 2147483648 from rfl] at *
  omega
def tN (X : Nat) : Nat → Nat
  | 0 => 0
  | k + 1 => tN X k + X / 2 ^ k % 2
theorem cnt_tN (s : Int32) : ∀ k, cnt (gb s) k = ((tN (nN s) k : Nat) : Int)
  | 0 => rfl
  | k + 1 => by rw [cnt_s, bit_if, cnt_tN s k]; exact (Int.natCast_add _ _).symm
theorem pop_mod (X : Nat) : popN (X % 256) = X / 2 ^ 0 % 2 + X / 2 ^ 1 % 2 + X / 2 ^ 2 % 2 + X / 2 ^ 3 % 2 + X / 2 ^ 4 % 2 + X / 2 ^ 5 % 2 + X / 2 ^ 6 % 2 + X / 2 ^ 7 % 2 := by
  have h0 : X % 256 % 2 = X / 2 ^ 0 % 2 := by rw [Nat.pow_zero, Nat.div_one]; omega
  have h1 : X % 256 / 2 % 2 = X / 2 ^ 1 % 2 := by show _ = X / 2 % 2; omega
  have h2 : X % 256 / 4 % 2 = X / 2 ^ 2 % 2 := by show _ = X / 4 % 2; omega
  have h3 : X % 256 / 8 % 2 = X / 2 ^ 3 % 2 := by show _ = X / 8 % 2; omega
  have h4 : X % 256 / 16 % 2 = X / 2 ^ 4 % 2 := by show _ = X / 16 % 2; omega
  have h5 : X % 256 / 32 % 2 = X / 2 ^ 5 % 2 := by show _ = X / 32 % 2; omega
  have h6 : X % 256 / 64 % 2 = X / 2 ^ 6 % 2 := by show _ = X / 64 % 2; omega
  have h7 : X % 256 / 128 % 2 = X / 2 ^ 7 % 2 := by show _ = X / 128 % 2; omega
  unfold popN
  rw [h0, h1, h2, h3, h4, h5, h6, h7]
theorem pop_24 {X : Nat} (h : X < 16777216) : popN (X % 256) + popN (X / 256 % 256) + popN (X / 65536) = tN X 24 := by
  have e : X / 65536 = X / 65536 % 256 := by omega
  have d : ∀ a b : Nat, X / 2 ^ a / 2 ^ b = X / 2 ^ (a + b) := fun a b => by rw [Nat.div_div_eq_div_mul, ← Nat.pow_add]
  rw [e, pop_mod, pop_mod, pop_mod, show X / 256 = X / 2 ^ 8 from rfl, show X / 65536 = X / 2 ^ 16 from rfl]
  simp only [d]
  simp only [tN, Nat.add_assoc, Nat.zero_add]
theorem bitCount_sp {σ : Sg} {d : Nat} {s : Int32} (h : ∀ k : Int, 24 ≤ k → k < 32 → gb s k = false) : f_Integer_bitCount (d + 1) s σ = rI (zI (cnt (gb s) 24)) σ := by
  have hl := nN_24 h
  rw [bc_eq]
  refine congrArg (rI · σ) ?_
  have hN := bc_N (s := s) (b0 := nN s % 256) (b1 := nN s / 256 % 256) (b2 := nN s / 65536) (by omega) (by omega) (by omega) (by omega)
  rw [pop_24 hl] at hN
  rw [cnt_tN, ← hN]
  have hb : nN (bc5 s) < 4294967296 := (bc5 s).toBitVec.isLt
  have hb2 : nN (bc5 s) < 64 := by
    unfold bc5; rw [nN_and]; exact Nat.lt_of_le_of_lt Nat.and_le_right (by decide)
  generalize bc5 s = v at hb hb2
  have h2 : v.toInt = ((nN v : Nat) : Int) := by
    show v.toBitVec.toInt = _
    exact BitVec.toInt_eq_toNat_of_lt (by unfold nN at hb2; omega)
  rw [← h2, zI_self]
