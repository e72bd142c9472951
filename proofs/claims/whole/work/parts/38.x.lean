/-! the tape -/
theorem isTapeHas {σ : Sg} {d : Nat} {a m : Int} (hm : 0 ≤ m ∧ m ≤ 1000) (ha : -2147483648 ≤ a ∧ a < 2147483648) : f_Tape_has (d + 1) (zI a) (zI m) σ = rI (bz (decide (1 ≤ a ∧ a ≤ m ∧ a ≤ rd σ 5 1))) σ := by
  have b1 := rd_lo σ 5 1; have b2 := rd_hi σ 5 1
  rw [f_Tape_has_eq]
  simp (disch := first | assumption | omega) only [cI_rI, cV_rV, cJ_rJ, rZ_0, rZ_1, rZ_z0, rZ_z1, zI_lit, zI_ofNat, zI_add, zI_sub, zI_mul, zI_neg, Int.cast_ofNat_Int, Int.reduceNeg, Int.reduceAdd, Int.reduceSub, Int.reduceMul, zI_eq, zI_le, ix_zI, bnd_zI, rd_k, toNat_c, Int.reduceEq, Int.reduceLT, Int.reduceNe, if_true, if_false, reduceIte, Nat.reduceAdd]
  repeat' split
  all_goals first | exact congrArg (rI · σ) (bz_t (by omega)) | exact congrArg (rI · σ) (bz_f (by omega))
/-- one number comes behind the tape: the class -/
def bAt (x : Int32) (s : Int) : Int32 := (x >>> (zI s &&& zI 31)) &&& zI 255
theorem bAt_bd (x : Int32) (s : Int) : ∃ z : Int, bAt x s = zI z ∧ 0 ≤ z ∧ z < 256 := by
  obtain ⟨z, e, h1, h2⟩ := zI_ex (bAt x s)
  refine ⟨z, e, ?_⟩
  have hb : (bAt x s).toBitVec.toNat < 256 := by
    unfold bAt
    rw [Int32.toBitVec_and, BitVec.toNat_and]
    have : (zI 255).toBitVec.toNat = 255 := by decide
    rw [this]
    exact Nat.lt_of_le_of_lt Nat.and_le_right (by decide)
  have : (bAt x s).toInt = ((bAt x s).toBitVec.toNat : Int) := by
    show (bAt x s).toBitVec.toInt = _
    rw [BitVec.toInt_eq_toNat_of_lt (by omega)]
  rw [e, zI_toInt h1 h2] at this
  rw [e] at hb
  omega
theorem byte_and (x : Int32) : vp_nar .byte (x.toInt8.toInt32) &&& zI 255 = x &&& zI 255 := by
  rw [vp_nar_byte]
  apply gb_ext
  intro k k0 k1
  rw [gb_and, gb_and]
  by_cases h : k < 8
  · refine congrArg (· && gb (zI 255) k) ?_
    unfold gb
    have e : ∀ y : Int32, y.toInt8.toInt32.toBitVec.getLsbD k.toNat = y.toBitVec.getLsbD k.toNat := fun y => by
      have q1 : k.toNat < 8 := by omega
      have q2 : k.toNat < 32 := by omega
      rw [Int8.toBitVec_toInt32, Int32.toBitVec_toInt8, BitVec.getLsbD_signExtend, if_pos q1, BitVec.getLsbD_signExtend, if_pos q2]
      simp [q1, q2]
    rw [e, e]
  · have : gb (zI 255) k = false := by
      have : ∀ j : Fin 32, 8 ≤ j.val → (zI 255).toBitVec.getLsbD j.val = false := by decide
      exact this ⟨k.toNat, by omega⟩ (by show 8 ≤ k.toNat; omega)
    rw [this, Bool.and_false, Bool.and_false]
theorem add_sp {σ : Sg} {d : Nat} {x : Int32} {h : Int} (h0 : 0 ≤ h) (h1 : h + 4 ≤ 260) (hh : rd σ 5 1 = h) : ∃ σ', f_Tape_add (d + 2) x σ = rV σ' ∧ rd σ' 5 1 = h + 4 ∧ (∀ k : Nat, (k : Int) < h → σ'.1 6 k = σ.1 6 k) ∧ (∀ j : Nat, j < 4 → σ'.1 6 (h.toNat + j) = bAt x (24 - 8 * (j : Int))) ∧ Fr (fun a k => (a == 5 && k == 1) || a == 6) σ σ' := by
  have st : ∀ (τ : Sg) (j : Int), 0 ≤ j → j < 4 → rd τ 5 1 = h + j → f_Tape_add_3 (d + 1) x (zI (24 - 8 * j)) τ = f_Tape_add_3 (d + 1) x (zI (24 - 8 * (j + 1))) (sI (sI τ 5 1 (zI (h + (j + 1)))) 6 (h + j).toNat (bAt x (24 - 8 * j))) := fun τ j j0 j4 hj => by
    have e : f_Tape_hasRoomFor (d + 1) (zI 1) τ = rI (zI 1) τ := by
      rw [f_Tape_hasRoomFor_eq]
      simp (disch := first | assumption | omega) only [cI_rI, cV_rV, cJ_rJ, rZ_0, rZ_1, rZ_z0, rZ_z1, zI_lit, zI_ofNat, zI_add, zI_sub, zI_mul, zI_neg, Int.cast_ofNat_Int, Int.reduceNeg, Int.reduceAdd, Int.reduceSub, Int.reduceMul, zI_eq, zI_le, ix_zI, bnd_zI, rd_k, toNat_c, Int.reduceEq, Int.reduceLT, Int.reduceNe, if_true, if_false, reduceIte, Nat.reduceAdd, hj]
      rw [if_neg (by omega)]
    rw [f_Tape_add_3_eq]
    simp (disch := first | assumption | omega) only [cI_rI, cV_rV, cJ_rJ, rZ_0, rZ_1, rZ_z0, rZ_z1, zI_lit, zI_ofNat, zI_add, zI_sub, zI_mul, zI_neg, Int.cast_ofNat_Int, Int.reduceNeg, Int.reduceAdd, Int.reduceSub, Int.reduceMul, zI_eq, zI_le, ix_zI, bnd_zI, rd_k, toNat_c, Int.reduceEq, Int.reduceLT, Int.reduceNe, if_true, if_false, reduceIte, Nat.reduceAdd, e, hj]
    rw [if_neg (by omega), show h + j + 1 = h + (j + 1) by omega, show 24 - 8 * j + -8 = 24 - 8 * (j + 1) by omega]
    rfl
  have fin : ∀ τ : Sg, f_Tape_add_3 (d + 1) x (zI (24 - 8 * 4)) τ = rV τ := fun τ => by
    rw [f_Tape_add_3_eq, if_pos (by decide)]
  have n1 : ∀ (τ : Sg) (v : Int) (k : Nat) (y : Int32), -2147483648 ≤ v → v < 2147483648 → rd (sI (sI τ 5 1 (zI v)) 6 k y) 5 1 = v := fun τ v k y q1 q2 => by
    rw [rd_other (by omega)]; exact rd_same (show (1 : Int).toNat = 1 from rfl) q1 q2
  generalize hs1 : sI (sI σ 5 1 (zI (h + (0 + 1)))) 6 (h + 0).toNat (bAt x (24 - 8 * 0)) = s1
  generalize hs2 : sI (sI s1 5 1 (zI (h + (1 + 1)))) 6 (h + 1).toNat (bAt x (24 - 8 * 1)) = s2
  generalize hs3 : sI (sI s2 5 1 (zI (h + (2 + 1)))) 6 (h + 2).toNat (bAt x (24 - 8 * 2)) = s3
  generalize hs4 : sI (sI s3 5 1 (zI (h + (3 + 1)))) 6 (h + 3).toNat (bAt x (24 - 8 * 3)) = s4
  have r1 : rd s1 5 1 = h + 1 := by rw [← hs1, n1 _ _ _ _ (by omega) (by omega)]; omega
  have r2 : rd s2 5 1 = h + 2 := by rw [← hs2, n1 _ _ _ _ (by omega) (by omega)]; omega
  have r3 : rd s3 5 1 = h + 3 := by rw [← hs3, n1 _ _ _ _ (by omega) (by omega)]; omega
  have r4 : rd s4 5 1 = h + 4 := by rw [← hs4, n1 _ _ _ _ (by omega) (by omega)]; omega
  have fr : ∀ (τ : Sg) (v : Int32) (k : Nat) (y : Int32), Fr (fun a k => (a == 5 && k == 1) || a == 6) τ (sI (sI τ 5 1 v) 6 k y) := fun τ v k y => ((Fr.rf _ τ).sI _ rfl).sI _ rfl
  have G1 : Fr (fun a k => (a == 5 && k == 1) || a == 6) σ s1 := by rw [← hs1]; exact fr _ _ _ _
  have G2 : Fr (fun a k => (a == 5 && k == 1) || a == 6) s1 s2 := by rw [← hs2]; exact fr _ _ _ _
  have G3 : Fr (fun a k => (a == 5 && k == 1) || a == 6) s2 s3 := by rw [← hs3]; exact fr _ _ _ _
  have G4 : Fr (fun a k => (a == 5 && k == 1) || a == 6) s3 s4 := by rw [← hs4]; exact fr _ _ _ _
  have at6 : ∀ (τ : Sg) (v : Int32) (k : Nat) (y : Int32) (j : Nat), (sI (sI τ 5 1 v) 6 k y).1 6 j = if j = k then y else τ.1 6 j := fun τ v k y j => by
    by_cases q : j = k
    · rw [q, sI_same, if_pos rfl]
    · rw [sI_slot _ _ _ _ q, sI_row _ _ _ _ _ (by decide), if_neg q]
  have a4 : ∀ j, s4.1 6 j = if j = (h + 3).toNat then bAt x (24 - 8 * 3) else if j = (h + 2).toNat then bAt x (24 - 8 * 2) else if j = (h + 1).toNat then bAt x (24 - 8 * 1) else if j = (h + 0).toNat then bAt x (24 - 8 * 0) else σ.1 6 j := fun j => by
    rw [← hs4, at6, ← hs3, at6, ← hs2, at6, ← hs1, at6]
  refine ⟨s4, ?_, r4, fun k hk => ?_, fun j hj => ?_, ((G1.tr G2).tr G3).tr G4⟩
  · rw [f_Tape_add_eq, show (24 : Int32) = zI (24 - 8 * 0) from zI_lit 24, st σ 0 (by decide) (by decide) (by omega), hs1, show (0 : Int) + 1 = 1 from rfl, st s1 1 (by decide) (by decide) r1, hs2, show (1 : Int) + 1 = 2 from rfl, st s2 2 (by decide) (by decide) r2, hs3, show (2 : Int) + 1 = 3 from rfl, st s3 3 (by decide) (by decide) r3, hs4, show (3 : Int) + 1 = 4 from rfl, fin]
  · rw [a4, if_neg (by omega), if_neg (by omega), if_neg (by omega), if_neg (by omega)]
  · rw [a4]
    rcases (show j = 0 ∨ j = 1 ∨ j = 2 ∨ j = 3 by omega) with rfl | rfl | rfl | rfl
    · rw [if_neg (by omega), if_neg (by omega), if_neg (by omega), if_pos (by omega)]; rfl
    · rw [if_neg (by omega), if_neg (by omega), if_pos (by omega)]; rfl
    · rw [if_neg (by omega), if_pos (by omega)]; rfl
    · rw [if_pos (by omega)]; rfl
def bMt (x : Int32) (s : Int) : Int32 := vp_nar .byte ((x >>> (zI s &&& zI 31)).toInt8.toInt32)
theorem types_sp {σ : Sg} {d : Nat} {x : Int32} {h : Int} (h0 : 0 ≤ h) (h1 : h + 4 ≤ 260) (hh : rd σ 102 7 = h) : ∃ σ', f_M_types (d + 2) x σ = rV σ' ∧ rd σ' 102 7 = h + 4 ∧ (∀ k : Nat, (k : Int) < h → σ'.1 108 k = σ.1 108 k) ∧ (∀ j : Nat, j < 4 → σ'.1 108 (h.toNat + j) = bMt x (24 - 8 * (j : Int))) ∧ Fr (fun a k => (a == 102 && k == 7) || a == 108) σ σ' := by
  have st : ∀ (τ : Sg) (j : Int), 0 ≤ j → j < 4 → rd τ 102 7 = h + j → f_M_types_2 (d + 1) x (zI (3 - j)) τ = f_M_types_2 (d + 1) x (zI (3 - (j + 1))) (sI (sI τ 108 (h + j).toNat (bMt x (24 - 8 * j))) 102 7 (zI (h + (j + 1)))) := fun τ j j0 j4 hj => by
    have hj' : rd (sI τ 108 (h + j).toNat (bMt x (24 - 8 * j))) 102 7 = h + j := by rw [rd_other (by omega)]; exact hj
    have e8 : (8 : Int32) * zI (3 - j) = zI (24 - 8 * j) := by rw [show (8 : Int32) = zI 8 from zI_lit 8, zI_mul]; exact congrArg zI (by omega)
    have e1 : τ.1 102 7 = zI (h + j) := (rd_k τ 102 7).trans (congrArg zI hj)
    have e2 : (sI τ 108 (h + j).toNat (bMt x (24 - 8 * j))).1 102 7 = zI (h + j) := (rd_k _ 102 7).trans (congrArg zI hj')
    rw [f_M_types_2_eq, if_neg (by rw [zI_0, zI_le (by omega) (by decide)]; omega), e1, bnd_zI (by omega) (by omega) (by omega), ix_zI (by omega) (by omega), e8, show (31 : Int32) = zI 31 from zI_lit 31]
    show f_M_types_2 (d + 1) x (zI (3 - j) + (-1)) (sI (sI τ 108 (h + j).toNat (bMt x (24 - 8 * j))) 102 7 ((sI τ 108 (h + j).toNat (bMt x (24 - 8 * j))).1 102 7 + 1)) = _
    rw [e2, show (-1 : Int32) = zI (-1) from rfl, show (1 : Int32) = zI 1 from zI_lit 1, zI_add, zI_add, show 3 - j + -1 = 3 - (j + 1) by omega, show h + j + 1 = h + (j + 1) by omega]
  have fin : ∀ τ : Sg, f_M_types_2 (d + 1) x (zI (3 - 4)) τ = rV τ := fun τ => by
    rw [f_M_types_2_eq, if_pos (by decide)]
  have n1 : ∀ (τ : Sg) (v : Int) (k : Nat) (y : Int32), -2147483648 ≤ v → v < 2147483648 → rd (sI (sI τ 108 k y) 102 7 (zI v)) 102 7 = v := fun τ v k y q1 q2 => by
    exact rd_same (show (7 : Int).toNat = 7 from rfl) q1 q2
  generalize hs1 : sI (sI σ 108 (h + 0).toNat (bMt x (24 - 8 * 0))) 102 7 (zI (h + (0 + 1))) = s1
  generalize hs2 : sI (sI s1 108 (h + 1).toNat (bMt x (24 - 8 * 1))) 102 7 (zI (h + (1 + 1))) = s2
  generalize hs3 : sI (sI s2 108 (h + 2).toNat (bMt x (24 - 8 * 2))) 102 7 (zI (h + (2 + 1))) = s3
  generalize hs4 : sI (sI s3 108 (h + 3).toNat (bMt x (24 - 8 * 3))) 102 7 (zI (h + (3 + 1))) = s4
  have r1 : rd s1 102 7 = h + 1 := by rw [← hs1, n1 _ _ _ _ (by omega) (by omega)]; omega
  have r2 : rd s2 102 7 = h + 2 := by rw [← hs2, n1 _ _ _ _ (by omega) (by omega)]; omega
  have r3 : rd s3 102 7 = h + 3 := by rw [← hs3, n1 _ _ _ _ (by omega) (by omega)]; omega
  have r4 : rd s4 102 7 = h + 4 := by rw [← hs4, n1 _ _ _ _ (by omega) (by omega)]; omega
  have fr : ∀ (τ : Sg) (v : Int32) (k : Nat) (y : Int32), Fr (fun a k => (a == 102 && k == 7) || a == 108) τ (sI (sI τ 108 k y) 102 7 v) := fun τ v k y => ((Fr.rf _ τ).sI _ rfl).sI _ rfl
  have G1 : Fr (fun a k => (a == 102 && k == 7) || a == 108) σ s1 := by rw [← hs1]; exact fr _ _ _ _
  have G2 : Fr (fun a k => (a == 102 && k == 7) || a == 108) s1 s2 := by rw [← hs2]; exact fr _ _ _ _
  have G3 : Fr (fun a k => (a == 102 && k == 7) || a == 108) s2 s3 := by rw [← hs3]; exact fr _ _ _ _
  have G4 : Fr (fun a k => (a == 102 && k == 7) || a == 108) s3 s4 := by rw [← hs4]; exact fr _ _ _ _
  have at6 : ∀ (τ : Sg) (v : Int32) (k : Nat) (y : Int32) (j : Nat), (sI (sI τ 108 k y) 102 7 v).1 108 j = if j = k then y else τ.1 108 j := fun τ v k y j => by
    rw [sI_row _ _ _ _ _ (by decide)]
    by_cases q : j = k
    · rw [q, sI_same, if_pos rfl]
    · rw [sI_slot _ _ _ _ q, if_neg q]
  have a4 : ∀ j, s4.1 108 j = if j = (h + 3).toNat then bMt x (24 - 8 * 3) else if j = (h + 2).toNat then bMt x (24 - 8 * 2) else if j = (h + 1).toNat then bMt x (24 - 8 * 1) else if j = (h + 0).toNat then bMt x (24 - 8 * 0) else σ.1 108 j := fun j => by
    rw [← hs4, at6, ← hs3, at6, ← hs2, at6, ← hs1, at6]
  refine ⟨s4, ?_, r4, fun k hk => ?_, fun j hj => ?_, ((G1.tr G2).tr G3).tr G4⟩
  · rw [f_M_types_eq, show (3 : Int32) = zI (3 - 0) from zI_lit 3, st σ 0 (by decide) (by decide) (by omega), hs1, show (0 : Int) + 1 = 1 from rfl, st s1 1 (by decide) (by decide) r1, hs2, show (1 : Int) + 1 = 2 from rfl, st s2 2 (by decide) (by decide) r2, hs3, show (2 : Int) + 1 = 3 from rfl, st s3 3 (by decide) (by decide) r3, hs4, show (3 : Int) + 1 = 4 from rfl, fin]
  · rw [a4, if_neg (by omega), if_neg (by omega), if_neg (by omega), if_neg (by omega)]
  · rw [a4]
    rcases (show j = 0 ∨ j = 1 ∨ j = 2 ∨ j = 3 by omega) with rfl | rfl | rfl | rfl
    · rw [if_neg (by omega), if_neg (by omega), if_neg (by omega), if_pos (by omega)]; rfl
    · rw [if_neg (by omega), if_neg (by omega), if_pos (by omega)]; rfl
    · rw [if_neg (by omega), if_pos (by omega)]; rfl
    · rw [if_pos (by omega)]; rfl
/-- the five numbers, whatever they are -/
theorem five {S : Nat → Nat → Bool} (b c : Nat) (f : Int32 → Sg → Rs) (g : Int32 → Int → Int32) (hd : Sg → Int) (hf : ∀ (τ : Sg) (x : Int32) (h : Int), 0 ≤ h → h + 4 ≤ 260 → hd τ = h → ∃ σ', f x τ = rV σ' ∧ hd σ' = h + 4 ∧ (∀ k : Nat, (k : Int) < h → σ'.1 b k = τ.1 b k) ∧ (∀ j : Nat, j < 4 → σ'.1 b (h.toNat + j) = g x (24 - 8 * (j : Int))) ∧ Fr S τ σ')
    {σ : Sg} {h : Int} (h0 : 0 ≤ h) (h1 : h + 20 ≤ 260) (hh : hd σ = h) (x1 x2 x3 x4 x5 : Int32) : ∃ s1 s2 s3 s4 s5, f x1 σ = rV s1 ∧ f x2 s1 = rV s2 ∧ f x3 s2 = rV s3 ∧ f x4 s3 = rV s4 ∧ f x5 s4 = rV s5 ∧ hd s5 = h + 20 ∧ Fr S σ s5 ∧ (∀ k : Nat, (k : Int) < h → s5.1 b k = σ.1 b k) ∧ ∀ j : Nat, j < 20 → s5.1 b (h.toNat + j) = g (if j < 4 then x1 else if j < 8 then x2 else if j < 12 then x3 else if j < 16 then x4 else x5) (24 - 8 * ((j % 4 : Nat) : Int)) := by
  obtain ⟨s1, e1, d1, k1, j1, F1⟩ := hf σ x1 h h0 (by omega) hh
  obtain ⟨s2, e2, d2, k2, j2, F2⟩ := hf s1 x2 (h + 4) (by omega) (by omega) d1
  obtain ⟨s3, e3, d3, k3, j3, F3⟩ := hf s2 x3 (h + 4 + 4) (by omega) (by omega) d2
  obtain ⟨s4, e4, d4, k4, j4, F4⟩ := hf s3 x4 (h + 4 + 4 + 4) (by omega) (by omega) d3
  obtain ⟨s5, e5, d5, k5, j5, F5⟩ := hf s4 x5 (h + 4 + 4 + 4 + 4) (by omega) (by omega) d4
  refine ⟨s1, s2, s3, s4, s5, e1, e2, e3, e4, e5, by omega, (((F1.tr F2).tr F3).tr F4).tr F5, fun k hk => ?_, fun j hj => ?_⟩
  · rw [k5 k (by omega), k4 k (by omega), k3 k (by omega), k2 k (by omega), k1 k hk]
  · by_cases q1 : j < 4
    · rw [if_pos q1, k5 _ (by omega), k4 _ (by omega), k3 _ (by omega), k2 _ (by omega), j1 j q1, show j % 4 = j by omega]
    · rw [if_neg q1]
      by_cases q2 : j < 8
      · rw [if_pos q2, k5 _ (by omega), k4 _ (by omega), k3 _ (by omega), show h.toNat + j = (h + 4).toNat + (j - 4) by omega, j2 (j - 4) (by omega), show j % 4 = j - 4 by omega]
      · rw [if_neg q2]
        by_cases q3 : j < 12
        · rw [if_pos q3, k5 _ (by omega), k4 _ (by omega), show h.toNat + j = (h + 4 + 4).toNat + (j - 8) by omega, j3 (j - 8) (by omega), show j % 4 = j - 8 by omega]
        · rw [if_neg q3]
          by_cases q4 : j < 16
          · rw [if_pos q4, k5 _ (by omega), show h.toNat + j = (h + 4 + 4 + 4).toNat + (j - 12) by omega, j4 (j - 12) (by omega), show j % 4 = j - 12 by omega]
          · rw [if_neg q4, show h.toNat + j = (h + 4 + 4 + 4 + 4).toNat + (j - 16) by omega, j5 (j - 16) (by omega), show j % 4 = j - 16 by omega]
theorem c_feed {σ : Sg} {r p l : Nat} (h : Inv r p l σ) (x1 x2 x3 x4 x5 : Int32) : Same (f_N_feed 100 x1 x2 x3 x4 x5) (f_M_feed 100 x1 x2 x3 x4 x5) σ := by
  obtain ⟨t0, t1, t2, t3⟩ := h.2.1
  have hb := h.bits
  have e5 : σ.1 5 1 = zI (rd σ 5 1) := rd_k _ _ _
  have e7 : σ.1 102 7 = zI (rd σ 5 1) := (rd_k σ 102 7).trans (congrArg zI t2)
  have eR : f_Tape_hasRoomFor 99 20 σ = rI (bz (decide (rd σ 5 1 + 20 ≤ 260))) σ := by
    rw [f_Tape_hasRoomFor_eq, e5]
    simp (disch := first | assumption | omega) only [cI_rI, cV_rV, cJ_rJ, rZ_0, rZ_1, rZ_z0, rZ_z1, zI_lit, zI_ofNat, zI_add, zI_sub, zI_mul, zI_neg, Int.cast_ofNat_Int, Int.reduceNeg, Int.reduceAdd, Int.reduceSub, Int.reduceMul, zI_eq, zI_le, ix_zI, bnd_zI, toNat_c, Int.reduceEq, Int.reduceLT, Int.reduceNe, Int.reduceToNat, Int.reduceMul, Int.reduceAdd, Int.zero_add, if_true, if_false, reduceIte, Nat.reduceAdd]
    repeat' split
    all_goals first | exact congrArg (rI · σ) (bz_t (by omega)) | exact congrArg (rI · σ) (bz_f (by omega))
  have eM0 : ((260 : Int32) < σ.1 102 7 + 20) = (260 < rd σ 5 1 + 20) := by
    rw [e7, show (260 : Int32) = zI 260 from zI_lit 260, show (20 : Int32) = zI 20 from zI_lit 20, zI_add]; exact zI_le (by decide) (by omega)
  by_cases q : rd σ 5 1 + 20 ≤ 260
  · obtain ⟨s1, s2, s3, s4, s5, c1, c2, c3, c4, c5, hd, F, k5, j5⟩ := five 6 0 (fun x τ => f_Tape_add 99 x τ) bAt (fun τ => rd τ 5 1) (fun τ x h h0 h1 hh => add_sp (d := 97) h0 h1 hh) t0 q rfl x1 x2 x3 x4 x5
    have c1 : f_Tape_add 99 x1 σ = rV s1 := c1
    have c2 : f_Tape_add 99 x2 s1 = rV s2 := c2
    have c3 : f_Tape_add 99 x3 s2 = rV s3 := c3
    have c4 : f_Tape_add 99 x4 s3 = rV s4 := c4
    have c5 : f_Tape_add 99 x5 s4 = rV s5 := c5
    have hd : rd s5 5 1 = rd σ 5 1 + 20 := hd
    have eN : f_N_feed 100 x1 x2 x3 x4 x5 σ = rI (zI (rd σ 5 1 + 20)) s5 := by
      rw [f_N_feed_eq, eR, cI_rI, decide_eq_true q, bz_tt, if_neg (by decide), c1, cV_rV, c2, cV_rV, c3, cV_rV, c4, cV_rV, c5, cV_rV, show s5.1 5 1 = zI (rd σ 5 1 + 20) from (rd_k s5 5 1).trans (congrArg zI hd)]
    have t2' : rd s5 102 7 = rd σ 5 1 := by rw [fr_rd F rfl, t2]
    obtain ⟨u1, u2, u3, u4, u5, m1, m2, m3, m4, m5, hm, G, l5, i5⟩ := five 108 0 (fun x τ => f_M_types 99 x τ) bMt (fun τ => rd τ 102 7) (fun τ x h h0 h1 hh => types_sp (d := 97) h0 h1 hh) t0 q t2' x1 x2 x3 x4 x5
    have m1 : f_M_types 99 x1 s5 = rV u1 := m1
    have m2 : f_M_types 99 x2 u1 = rV u2 := m2
    have m3 : f_M_types 99 x3 u2 = rV u3 := m3
    have m4 : f_M_types 99 x4 u3 = rV u4 := m4
    have m5 : f_M_types 99 x5 u4 = rV u5 := m5
    have hm : rd u5 102 7 = rd σ 5 1 + 20 := hm
    have eM0' : ¬ (260 : Int32) < s5.1 102 7 + 20 := by rw [F.2 _ _ rfl, eM0]; omega
    have eM : f_M_feed 100 x1 x2 x3 x4 x5 s5 = rI (zI (rd σ 5 1 + 20)) u5 := by
      rw [f_M_feed_eq, if_neg eM0', m1, cV_rV, m2, cV_rV, m3, cV_rV, m4, cV_rV, m5, cV_rV, show u5.1 102 7 = zI (rd σ 5 1 + 20) from (rd_k u5 102 7).trans (congrArg zI hm)]
    have FG := FrU F G (U := fun a k => (a == 5 && k == 1) || a == 6 || (a == 102 && k == 7) || a == 108) fun a k e => by simp at e ⊢; omega
    refine ⟨_, s5, u5, r, p, l, eN, eM, ?_⟩
    have V := vOf_VC σ 87
    obtain ⟨i1, i2, i3, i4, i5', i6, i7, i8⟩ := h
    have hD : ∀ a k, (DRule r a k || DRoll r p a k || DLaw l a k || DHou r p a k || DKep a k || DV 87 103 a k) = true → ((a == 5 && k == 1) || a == 6 || (a == 102 && k == 7) || a == 108) = false := by
      intro a k q
      simp only [Bool.or_eq_true] at q
      rcases q with ((((q | q) | q) | q) | q) | q
      · simp [DRule] at q; simp; omega
      · simp [DRoll] at q; simp; omega
      · simp [DLaw] at q; simp; omega
      · simp [DHou] at q; simp; omega
      · simp [DKep, DV] at q; simp; omega
      · simp [DV] at q; simp; omega
    have r5 : rd u5 5 1 = rd σ 5 1 + 20 := by rw [fr_rd G rfl]; exact hd
    refine ⟨i1.fr FG, ⟨by omega, by omega, by omega, fun k k0 k1 => ?_⟩, i3.fr FG fun a k q => hD a k (by simp [q]), i4.fr FG fun a k q => hD a k (by simp [q]), i5'.fr FG fun a k q => hD a k (by simp [q]), i6.fr FG fun a k q => hD a k (by simp [q]), i7.fr FG (fr_rd FG (hD _ _ (by simp [DRule]))) fun a k q => hD a k (by simp [q]), i8.fr FG fun a k q => hD a k (by simp [q])⟩
    have x6 : u5.1 6 k.toNat = s5.1 6 k.toNat := G.2 _ _ rfl
    by_cases kk : k < rd σ 5 1
    · have y6 : rd u5 6 k = rd σ 6 k := by show (u5.1 6 k.toNat).toInt = _; rw [x6, k5 k.toNat (by omega)]; rfl
      obtain ⟨q1, q2, q3⟩ := t3 k k0 kk
      rw [y6]
      refine ⟨q1, q2, ?_⟩
      rw [l5 k.toNat (by omega), F.2 108 _ rfl]; exact q3
    · have jj : k.toNat = (rd σ 5 1).toNat + (k.toNat - (rd σ 5 1).toNat) := by omega
      have z6 := j5 (k.toNat - (rd σ 5 1).toNat) (by omega)
      have z8 := i5 (k.toNat - (rd σ 5 1).toNat) (by omega)
      rw [← jj] at z6 z8
      obtain ⟨z, ez, z0, z1⟩ := bAt_bd (if k.toNat - (rd σ 5 1).toNat < 4 then x1 else if k.toNat - (rd σ 5 1).toNat < 8 then x2 else if k.toNat - (rd σ 5 1).toNat < 12 then x3 else if k.toNat - (rd σ 5 1).toNat < 16 then x4 else x5) (24 - 8 * (((k.toNat - (rd σ 5 1).toNat) % 4 : Nat) : Int))
      have y6 : rd u5 6 k = z := by show (u5.1 6 k.toNat).toInt = z; rw [x6, z6, ez, zI_toInt (by omega) (by omega)]
      rw [y6, z8]
      refine ⟨z0, z1, ?_⟩
      unfold bMt
      rw [byte_and, ← ez]; rfl
  · refine ⟨-1, σ, σ, r, p, l, ?_, ?_, h⟩
    · rw [f_N_feed_eq, eR, cI_rI, decide_eq_false q, bz_ff, if_pos (by decide)]
    · rw [f_M_feed_eq, if_pos (by rw [eM0]; omega)]
