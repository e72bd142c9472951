/-! numbers as Int in the machine's ints -/
def zI (z : Int) : Int32 := Int32.ofInt z
theorem zI_self (x : Int32) : zI x.toInt = x := Int32.ofInt_toInt x
theorem zI_toInt {z : Int} (h : -2147483648 ≤ z) (h' : z < 2147483648) : (zI z).toInt = z := Int32.toInt_ofInt_of_le (by omega) (by omega)
theorem zI_ex (x : Int32) : ∃ z : Int, x = zI z ∧ -2147483648 ≤ z ∧ z < 2147483648 := ⟨x.toInt, (zI_self x).symm, by have := x.le_toInt; omega, by have := x.toInt_lt; omega⟩
theorem zI_inj {a b : Int} (h1 : -2147483648 ≤ a) (h2 : a < 2147483648) (h3 : -2147483648 ≤ b) (h4 : b < 2147483648) : (zI a = zI b) = (a = b) := propext ⟨fun h => by rw [← zI_toInt h1 h2, ← zI_toInt h3 h4, h], fun h => by rw [h]⟩
theorem zI_eq {a b : Int} (h : -2147483648 ≤ a ∧ a < 2147483648) (h' : -2147483648 ≤ b ∧ b < 2147483648) : (zI a = zI b) = (a = b) := zI_inj h.1 h.2 h'.1 h'.2
theorem zI_lt {a b : Int} (h1 : -2147483648 ≤ a) (h2 : a < 2147483648) (h3 : -2147483648 ≤ b) (h4 : b < 2147483648) : (zI a < zI b) = (a < b) := propext (by rw [Int32.lt_iff_toInt_lt, zI_toInt h1 h2, zI_toInt h3 h4])
theorem zI_le {a b : Int} (h : -2147483648 ≤ a ∧ a < 2147483648) (h' : -2147483648 ≤ b ∧ b < 2147483648) : (zI a < zI b) = (a < b) := zI_lt h.1 h.2 h'.1 h'.2
theorem zI_add (a b : Int) : zI a + zI b = zI (a + b) := (Int32.ofInt_add a b).symm
theorem zI_sub (a b : Int) : zI a - zI b = zI (a - b) := (Int32.ofInt_sub a b).symm
theorem zI_mul (a b : Int) : zI a * zI b = zI (a * b) := (Int32.ofInt_mul a b).symm
theorem zI_neg (a : Int) : -zI a = zI (-a) := (Int32.ofInt_neg a).symm
theorem zI_lit (n : Nat) : (@OfNat.ofNat Int32 n Int32.instOfNat) = zI (OfNat.ofNat n) := (Int32.ofInt_eq_ofNat (n := n)).symm
theorem zI_0 : (0 : Int32) = zI 0 := zI_lit 0
theorem zI_ofNat (n : Nat) : Int32.ofNat n = zI (n : Int) := (Int32.ofInt_eq_ofNat (n := n)).symm
theorem ix_zI {a : Int} (h : 0 ≤ a) (h' : a < 2147483648) : ix (zI a) = a.toNat := Int32.toNatClampNeg_ofInt_of_le (by omega) (by omega)
theorem bnd_zI {a : Int} {n : Nat} {X : Rs} (h : 0 ≤ a) (h' : a < n) (hn : a < 2147483648) : bnd (zI a) n X = X := by
  unfold bnd
  rw [if_neg]
  rw [ix_zI h hn, zI_0, zI_lt (by omega) hn (by decide) (by decide)]
  omega
theorem dvI_zI {a b : Int} {K : Int32 → Rs} (h1 : -2147483648 ≤ a) (h2 : a < 2147483648) (h3 : 0 < b) (h4 : b < 2147483648) : dvI (zI a) (zI b) K = K (zI (a.tdiv b)) := by
  unfold dvI
  rw [if_neg (by rw [zI_0, zI_inj (by omega) h4 (by decide) (by decide)]; omega)]
  exact congrArg K (Int32.ofInt_tdiv (by simpa using h1) (by have : Int32.maxValue.toInt = 2147483647 := rfl; omega) (by have : Int32.minValue.toInt = -2147483648 := rfl; omega) (by have : Int32.maxValue.toInt = 2147483647 := rfl; omega)).symm
theorem dvI_nn {a b : Int} {K : Int32 → Rs} (h1 : 0 ≤ a) (h2 : a < 2147483648) (h3 : 0 < b) (h4 : b < 2147483648) : dvI (zI a) (zI b) K = K (zI (a / b)) := by
  rw [dvI_zI (by omega) h2 h3 h4, Int.tdiv_eq_ediv_of_nonneg h1]
theorem rmI_zI {a b : Int} {K : Int32 → Rs} (h1 : -2147483648 ≤ a) (h2 : a < 2147483648) (h3 : 0 < b) (h4 : b < 2147483648) : rmI (zI a) (zI b) K = K (zI (a.tmod b)) := by
  unfold rmI
  rw [if_neg (by rw [zI_0, zI_inj (by omega) h4 (by decide) (by decide)]; omega)]
  exact congrArg K (Int32.ofInt_tmod (by simpa using h1) (by have : Int32.maxValue.toInt = 2147483647 := rfl; omega) (by have : Int32.minValue.toInt = -2147483648 := rfl; omega) (by have : Int32.maxValue.toInt = 2147483647 := rfl; omega)).symm
theorem rmI_nn {a b : Int} {K : Int32 → Rs} (h1 : 0 ≤ a) (h2 : a < 2147483648) (h3 : 0 < b) (h4 : b < 2147483648) : rmI (zI a) (zI b) K = K (zI (a % b)) := by
  rw [rmI_zI (by omega) h2 h3 h4, Int.tmod_eq_emod_of_nonneg h1]
theorem mnI_zI {a b : Int} (h1 : -2147483648 ≤ a) (h2 : a < 2147483648) (h3 : -2147483648 ≤ b) (h4 : b < 2147483648) : mnI (zI a) (zI b) = zI (min a b) := by
  unfold mnI
  simp only [zI_lt h3 h4 h1 h2]
  split
  · rw [show min a b = b by omega]
  · rw [show min a b = a by omega]
theorem mxI_zI {a b : Int} (h1 : -2147483648 ≤ a) (h2 : a < 2147483648) (h3 : -2147483648 ≤ b) (h4 : b < 2147483648) : mxI (zI a) (zI b) = zI (max a b) := by
  unfold mxI
  simp only [zI_lt h1 h2 h3 h4]
  split
  · rw [show max a b = b by omega]
  · rw [show max a b = a by omega]
/-! what a call gives -/
theorem cI_rI (v : Int32) (σ : Sg) (K : Int32 → Sg → Rs) : cI (rI v σ) K = K v σ := rfl
theorem cV_rV (σ : Sg) (K : Sg → Rs) : cV (rV σ) K = K σ := rfl
theorem cJ_rJ (v : Int64) (σ : Sg) (K : Int64 → Sg → Rs) : cJ (rJ v σ) K = K v σ := rfl
theorem rZ_0 (σ : Sg) : rZ 0 σ = rI (zI 0) σ := rfl
theorem rZ_1 (σ : Sg) : rZ 1 σ = rI (zI 1) σ := rfl
theorem rZ_z0 (σ : Sg) : rZ (zI 0) σ = rI (zI 0) σ := rfl
theorem rZ_z1 (σ : Sg) : rZ (zI 1) σ = rI (zI 1) σ := rfl
theorem gdK_of {k a : Nat} {X : Rs} (h : (SH a).1 = k) : gdK k a X = X := by
  unfold gdK; rw [h, Nat.beq_refl]
theorem gfI_of {k a y : Nat} {σ : Sg} {K : Int32 → Rs} (h : (SH a).1 = k) : gfI k a y σ K = K (σ.1 a y) := gdK_of h
theorem gfS_of {k a y : Nat} {K : Nat → Rs} (h : (SH a).1 = k) : gfS k a y K = K (a + ofs k y) := gdK_of h
theorem gfD_of {k a y : Nat} {σ : Sg} {K : Nat → Rs} (h : (SH a).1 = k) : gfD k a y σ K = K (σ.2.2 a y) := gdK_of h
theorem pfI_of {k a y : Nat} {v : Int32} {σ : Sg} {K : Sg → Rs} (h : (SH a).1 = k) : pfI k a y v σ K = K (sI σ a y v) := gdK_of h
theorem pfD_of {k a y : Nat} {v : Nat} {σ : Sg} {K : Sg → Rs} (h : (SH a).1 = k) : pfD k a y v σ K = K (sR σ a y v) := gdK_of h
theorem pfZ_0 {k a y : Nat} {σ : Sg} {K : Sg → Rs} (h : (SH a).1 = k) : pfZ k a y (zI 0) σ K = K (sI σ a y (zI 0)) := gdK_of h
theorem pfZ_1 {k a y : Nat} {σ : Sg} {K : Sg → Rs} (h : (SH a).1 = k) : pfZ k a y (zI 1) σ K = K (sI σ a y (zI 1)) := gdK_of h
theorem ldI_of {a n : Nat} {i : Int} {σ : Sg} {K : Int32 → Rs} (h : SH a = (14, n)) (h0 : 0 ≤ i) (h1 : i < n) (h2 : i < 2147483648) : ldX sc0 a (zI i) σ K = K (σ.1 a i.toNat) := by
  unfold ldX; rw [h]; rw [← ix_zI h0 h2]; exact bnd_zI h0 h1 h2
theorem ldS_of {a n : Nat} {i : Int} {σ : Sg} {K : Int32 → Rs} (h : SH a = (17, n)) (h0 : 0 ≤ i) (h1 : i < n) (h2 : i < 2147483648) : ldX sc0 a (zI i) σ K = K (FC a i.toNat) := by
  unfold ldX; rw [h]; rw [← ix_zI h0 h2]; exact bnd_zI h0 h1 h2
theorem ldC_of {a n : Nat} {i : Int} {σ : Sg} {K : Int32 → Rs} (h : SH a = (13, n)) (h0 : 0 ≤ i) (h1 : i < n) (h2 : i < 2147483648) : ldC a (zI i) σ K = K (σ.1 a i.toNat) := by
  unfold ldC; rw [h]; rw [← ix_zI h0 h2]; exact bnd_zI h0 h1 h2
theorem ldCS_of {a n : Nat} {i : Int} {σ : Sg} {K : Int32 → Rs} (h : SH a = (18, n)) (h0 : 0 ≤ i) (h1 : i < n) (h2 : i < 2147483648) : ldC a (zI i) σ K = K (FC a i.toNat) := by
  unfold ldC; rw [h]; rw [← ix_zI h0 h2]; exact bnd_zI h0 h1 h2
theorem ldB_of {a n : Nat} {i : Int} {σ : Sg} {K : Int32 → Rs} (h : SH a = (12, n)) (h0 : 0 ≤ i) (h1 : i < n) (h2 : i < 2147483648) : ldB a (zI i) σ K = K (σ.1 a i.toNat) := by
  unfold ldB; rw [gdK_of (by rw [h]), h, ← ix_zI h0 h2]; exact bnd_zI h0 h1 h2
theorem stI_of {a n : Nat} {i : Int} {v : Int32} {σ : Sg} {K : Sg → Rs} (h : SH a = (14, n)) (h0 : 0 ≤ i) (h1 : i < n) (h2 : i < 2147483648) : stI a (zI i) v σ K = K (sI σ a i.toNat v) := by
  unfold stI; rw [gdK_of (by rw [h]), h, ← ix_zI h0 h2]; exact bnd_zI h0 h1 h2
theorem stC_of {a n : Nat} {i : Int} {v : Int32} {σ : Sg} {K : Sg → Rs} (h : SH a = (13, n)) (h0 : 0 ≤ i) (h1 : i < n) (h2 : i < 2147483648) : stC a (zI i) v σ K = K (sI σ a i.toNat (vp_nar .char v)) := by
  unfold stC; rw [gdK_of (by rw [h]), h, ← ix_zI h0 h2]; exact bnd_zI h0 h1 h2
theorem stB_of {a n : Nat} {i : Int} {v : Int32} {σ : Sg} {K : Sg → Rs} (h : SH a = (12, n)) (h0 : 0 ≤ i) (h1 : i < n) (h2 : i < 2147483648) : stB a (zI i) v σ K = K (sI σ a i.toNat (vp_nar .byte v)) := by
  unfold stB; rw [gdK_of (by rw [h]), h, ← ix_zI h0 h2]; exact bnd_zI h0 h1 h2
theorem ofs_0_0 : ofs 0 0 = 1 := rfl
theorem ofs_0_1 : ofs 0 1 = 2 := rfl
theorem ofs_0_2 : ofs 0 2 = 3 := rfl
theorem ofs_0_3 : ofs 0 3 = 4 := rfl
theorem ofs_0_4 : ofs 0 4 = 5 := rfl
theorem ofs_1_0 : ofs 1 0 = 1 := rfl
theorem ofs_1_1 : ofs 1 1 = 2 := rfl
theorem ofs_1_2 : ofs 1 2 = 3 := rfl
theorem ofs_1_3 : ofs 1 3 = 4 := rfl
theorem ofs_1_4 : ofs 1 4 = 5 := rfl
theorem ofs_1_5 : ofs 1 5 = 6 := rfl
theorem ofs_2_1 : ofs 2 1 = 1 := rfl
theorem ofs_2_2 : ofs 2 2 = 2 := rfl
theorem ofs_2_3 : ofs 2 3 = 3 := rfl
theorem ofs_2_4 : ofs 2 4 = 4 := rfl
theorem ofs_2_6 : ofs 2 6 = 5 := rfl
theorem ofs_2_7 : ofs 2 7 = 6 := rfl
theorem ofs_2_8 : ofs 2 8 = 7 := rfl
theorem ofs_3_0 : ofs 3 0 = 1 := rfl
theorem ofs_3_1 : ofs 3 1 = 2 := rfl
theorem ofs_3_2 : ofs 3 2 = 3 := rfl
theorem ofs_3_3 : ofs 3 3 = 4 := rfl
theorem ofs_4_1 : ofs 4 1 = 1 := rfl
theorem ofs_4_2 : ofs 4 2 = 2 := rfl
theorem ofs_4_3 : ofs 4 3 = 3 := rfl
theorem ofs_4_4 : ofs 4 4 = 4 := rfl
theorem ofs_4_5 : ofs 4 5 = 5 := rfl
theorem ofs_4_6 : ofs 4 6 = 6 := rfl
theorem ofs_4_7 : ofs 4 7 = 7 := rfl
theorem ofs_5_1 : ofs 5 1 = 1 := rfl
theorem ofs_5_2 : ofs 5 2 = 2 := rfl
theorem ofs_5_3 : ofs 5 3 = 3 := rfl
theorem ofs_5_4 : ofs 5 4 = 4 := rfl
theorem ofs_5_6 : ofs 5 6 = 5 := rfl
theorem ofs_6_1 : ofs 6 1 = 1 := rfl
theorem ofs_6_2 : ofs 6 2 = 2 := rfl
theorem ofs_6_3 : ofs 6 3 = 3 := rfl
theorem ofs_6_4 : ofs 6 4 = 4 := rfl
theorem ofs_7_0 : ofs 7 0 = 1 := rfl
theorem ofs_8_0 : ofs 8 0 = 1 := rfl
theorem ofs_8_1 : ofs 8 1 = 2 := rfl
theorem ofs_8_2 : ofs 8 2 = 3 := rfl
theorem ofs_8_8 : ofs 8 8 = 4 := rfl
theorem ofs_9_1 : ofs 9 1 = 1 := rfl
theorem ofs_9_2 : ofs 9 2 = 2 := rfl
theorem ofs_9_4 : ofs 9 4 = 3 := rfl
theorem ofs_9_5 : ofs 9 5 = 4 := rfl
theorem ofs_9_6 : ofs 9 6 = 5 := rfl
theorem ofs_10_0 : ofs 10 0 = 1 := rfl
theorem ofs_10_7 : ofs 10 7 = 45 := rfl
theorem ofs_10_8 : ofs 10 8 = 51 := rfl
theorem ofs_10_9 : ofs 10 9 = 57 := rfl
theorem ofs_10_10 : ofs 10 10 = 65 := rfl
theorem ofs_10_11 : ofs 10 11 = 71 := rfl
theorem ofs_10_12 : ofs 10 12 = 78 := rfl
theorem ofs_10_13 : ofs 10 13 = 83 := rfl
theorem ofs_10_14 : ofs 10 14 = 88 := rfl
theorem ofs_10_15 : ofs 10 15 = 93 := rfl
theorem ofs_11_0 : ofs 11 0 = 1 := rfl
theorem ofs_11_1 : ofs 11 1 = 2 := rfl
theorem ofs_11_2 : ofs 11 2 = 3 := rfl
theorem ofs_11_3 : ofs 11 3 = 4 := rfl
theorem ofs_11_4 : ofs 11 4 = 5 := rfl
theorem ofs_11_6 : ofs 11 6 = 6 := rfl
theorem ofs_11_17 : ofs 11 17 = 7 := rfl
theorem ofs_11_18 : ofs 11 18 = 8 := rfl
theorem ofs_11_19 : ofs 11 19 = 9 := rfl
theorem ofs_11_20 : ofs 11 20 = 10 := rfl
theorem ofs_11_21 : ofs 11 21 = 11 := rfl
theorem ofs_11_22 : ofs 11 22 = 12 := rfl
theorem ofs_11_23 : ofs 11 23 = 13 := rfl
theorem ofs_11_24 : ofs 11 24 = 14 := rfl
theorem ofs_11_25 : ofs 11 25 = 15 := rfl
theorem ofs_11_26 : ofs 11 26 = 16 := rfl
theorem ofs_11_27 : ofs 11 27 = 17 := rfl
theorem ofs_11_28 : ofs 11 28 = 18 := rfl
theorem ofs_11_29 : ofs 11 29 = 19 := rfl
theorem ofs_11_30 : ofs 11 30 = 20 := rfl
theorem ofs_11_31 : ofs 11 31 = 21 := rfl
theorem ofs_11_33 : ofs 11 33 = 22 := rfl
theorem ofs_11_34 : ofs 11 34 = 23 := rfl
theorem ofs_11_35 : ofs 11 35 = 24 := rfl
theorem ofs_11_36 : ofs 11 36 = 25 := rfl
theorem ofs_11_37 : ofs 11 37 = 26 := rfl
theorem ofs_11_43 : ofs 11 43 = 27 := rfl
theorem ofs_11_44 : ofs 11 44 = 28 := rfl
theorem ofs_11_45 : ofs 11 45 = 29 := rfl
theorem ofs_11_47 : ofs 11 47 = 30 := rfl
theorem ofs_11_48 : ofs 11 48 = 31 := rfl
theorem ofs_11_49 : ofs 11 49 = 32 := rfl
theorem ofs_11_50 : ofs 11 50 = 33 := rfl
theorem ofs_11_51 : ofs 11 51 = 34 := rfl
theorem ofs_11_52 : ofs 11 52 = 35 := rfl
theorem ofs_11_54 : ofs 11 54 = 36 := rfl
theorem ofs_11_55 : ofs 11 55 = 37 := rfl
theorem ofs_11_56 : ofs 11 56 = 38 := rfl
theorem ofs_11_57 : ofs 11 57 = 39 := rfl
theorem ofs_11_59 : ofs 11 59 = 40 := rfl
theorem ofs_11_60 : ofs 11 60 = 41 := rfl
theorem ofs_11_61 : ofs 11 61 = 42 := rfl
theorem ofs_11_62 : ofs 11 62 = 43 := rfl
theorem ofs_11_63 : ofs 11 63 = 44 := rfl
theorem ofs_11_64 : ofs 11 64 = 45 := rfl
theorem ofs_11_65 : ofs 11 65 = 46 := rfl
theorem ofs_11_66 : ofs 11 66 = 47 := rfl
theorem ofs_11_67 : ofs 11 67 = 48 := rfl
theorem ofs_11_68 : ofs 11 68 = 49 := rfl
theorem ofs_11_71 : ofs 11 71 = 50 := rfl
theorem ofs_11_74 : ofs 11 74 = 51 := rfl
theorem ofs_11_75 : ofs 11 75 = 52 := rfl
theorem ofs_11_76 : ofs 11 76 = 53 := rfl
theorem ofs_11_77 : ofs 11 77 = 54 := rfl
theorem ofs_11_78 : ofs 11 78 = 55 := rfl
/-! cells -/
theorem sI_1 (σ : Sg) (a k : Nat) (v : Int32) (b j : Nat) : (sI σ a k v).1 b j = if b = a ∧ j = k then v else σ.1 b j := rfl
theorem sI_same (σ : Sg) (a k : Nat) (v : Int32) : (sI σ a k v).1 a k = v := if_pos ⟨rfl, rfl⟩
theorem sI_row (σ : Sg) (a k : Nat) (v : Int32) {b : Nat} (j : Nat) (h : b ≠ a) : (sI σ a k v).1 b j = σ.1 b j := if_neg fun q => h q.1
theorem sI_slot (σ : Sg) (a k : Nat) (v : Int32) {b j : Nat} (h : j ≠ k) : (sI σ a k v).1 b j = σ.1 b j := if_neg fun q => h q.2
theorem sI_2 (σ : Sg) (a k : Nat) (v : Int32) : (sI σ a k v).2 = σ.2 := rfl
theorem sR_1 (σ : Sg) (a k v : Nat) : (sR σ a k v).1 = σ.1 := rfl
theorem sR_2 (σ : Sg) (a k v b j : Nat) : (sR σ a k v).2.2 b j = if b = a ∧ j = k then v else σ.2.2 b j := rfl
theorem sJ_1 (σ : Sg) (a k : Nat) (v : Int64) : (sJ σ a k v).1 = σ.1 := rfl
theorem sJ_22 (σ : Sg) (a k : Nat) (v : Int64) : (sJ σ a k v).2.2 = σ.2.2 := rfl
/-- what is changed lies in S -/
def Fr (S : Nat → Nat → Bool) (σ σ' : Sg) : Prop := σ'.2.2 = σ.2.2 ∧ ∀ a k, S a k = false → σ'.1 a k = σ.1 a k
theorem Fr.rf (S : Nat → Nat → Bool) (σ : Sg) : Fr S σ σ := ⟨rfl, fun _ _ _ => rfl⟩
theorem Fr.tr {S : Nat → Nat → Bool} {σ σ1 σ2 : Sg} (h : Fr S σ σ1) (h' : Fr S σ1 σ2) : Fr S σ σ2 := ⟨h'.1.trans h.1, fun a k q => (h'.2 a k q).trans (h.2 a k q)⟩
theorem Fr.mono {S T : Nat → Nat → Bool} {σ σ' : Sg} (h : Fr S σ σ') (q : ∀ a k, T a k = false → S a k = false) : Fr T σ σ' := ⟨h.1, fun a k e => h.2 a k (q a k e)⟩
theorem Fr.sI {S : Nat → Nat → Bool} {σ σ' : Sg} (h : Fr S σ σ') {a k : Nat} (v : Int32) (q : S a k = true) : Fr S σ (sI σ' a k v) := ⟨h.1, fun b j e => by
  rw [sI_1, if_neg (fun z => by rw [z.1, z.2, q] at e; cases e)]; exact h.2 b j e⟩
/-! loops -/
theorem zloop {α : Type} (n : Int) (F : Int → α → Rs) (P : Int → α → Prop) (R : Rs → Prop) (hs : ∀ i a, i < n → P i a → R (F i a) ∨ ∃ a', F i a = F (i + 1) a' ∧ P (i + 1) a') (he : ∀ a, P n a → R (F n a)) (i : Int) (a : α) (h1 : i ≤ n) (h2 : P i a) : R (F i a) := by
  obtain ⟨k, hk⟩ : ∃ k : Nat, i + k = n := ⟨(n - i).toNat, by omega⟩
  induction k generalizing i a with
  | zero => have : i = n := by omega
            subst this; exact he a h2
  | succ k ih =>
    rcases hs i a (by omega) h2 with h | ⟨a', e, hp⟩
    · exact h
    · rw [e]; exact ih (i + 1) a' (by omega) hp (by omega)
/-! bits -/
def gb (s : Int32) (k : Int) : Bool := s.toBitVec.getLsbD k.toNat
theorem gb_ext {s t : Int32} (h : ∀ k : Int, 0 ≤ k → k < 32 → gb s k = gb t k) : s = t := Int32.toBitVec_inj.mp (BitVec.eq_of_getLsbD_eq fun i hi => by
  have := h (i : Int) (by omega) (by omega)
  unfold gb at this
  rwa [show (i : Int).toNat = i by omega] at this)
theorem gb_0 (k : Int) : gb (zI 0) k = false := by unfold gb; exact BitVec.getLsbD_zero
theorem gb_or (a b : Int32) (k : Int) : gb (a ||| b) k = (gb a k || gb b k) := by unfold gb; rw [Int32.toBitVec_or, BitVec.getLsbD_or]
theorem gb_and (a b : Int32) (k : Int) : gb (a &&& b) k = (gb a k && gb b k) := by unfold gb; rw [Int32.toBitVec_and, BitVec.getLsbD_and]
theorem gb_not (a : Int32) {k : Int} (h : 0 ≤ k) (h' : k < 32) : gb (a ^^^ zI (-1)) k = !gb a k := by
  unfold gb
  rw [Int32.toBitVec_xor, BitVec.getLsbD_xor]
  rw [show (zI (-1)).toBitVec = BitVec.allOnes 32 from rfl, BitVec.getLsbD_allOnes, decide_eq_true (by omega)]
  simp
theorem gb_big (a : Int32) {k : Int} (h' : 32 ≤ k) : gb a k = false := by unfold gb; exact BitVec.getLsbD_of_ge _ _ (by omega)
theorem and31 : ∀ p : Fin 32, ((Int32.ofNat p.val &&& Int32.ofNat 31).toBitVec.smod 32).toNat = p.val := by decide +kernel
theorem and31' {p : Int} (h : 0 ≤ p) (h' : p < 32) : ((zI p &&& zI 31).toBitVec.smod 32).toNat = p.toNat := by
  have := and31 ⟨p.toNat, by omega⟩
  rw [zI_ofNat, zI_ofNat] at this
  rw [show ((p.toNat : Nat) : Int) = p by omega] at this
  exact this
theorem gb_sh {p k : Int} (h : 0 ≤ p) (h' : p < 32) (hk : 0 ≤ k) (hk' : k < 32) : gb (zI 1 <<< (zI p &&& zI 31)) k = decide (k = p) := by
  unfold gb
  rw [Int32.toBitVec_shiftLeft, BitVec.getLsbD_shiftLeft', and31' h h']
  rw [show (zI 1).toBitVec = 1#32 from rfl, BitVec.getLsbD_one]
  by_cases q : k = p
  · subst q; simp; omega
  · simp [q]; omega
theorem gb_one : ∀ k : Int, gb (zI 1) k = decide (k.toNat = 0) := fun k => by
  unfold gb
  rw [show (zI 1).toBitVec = 1#32 from rfl, BitVec.getLsbD_one]; simp
theorem sh_gb (s : Int32) {k : Int} (h : 0 ≤ k) (h' : k < 32) : (s >>> (zI k &&& zI 31)) &&& zI 1 = if gb s k = true then zI 1 else zI 0 := by
  apply gb_ext
  intro j hj hj'
  rw [gb_and, gb_one]
  by_cases q : j = 0
  · subst q
    have e : gb (s >>> (zI k &&& zI 31)) 0 = gb s k := by
      unfold gb
      rw [Int32.toBitVec_shiftRight, BitVec.sshiftRight_eq', and31' h h', BitVec.getLsbD_sshiftRight]
      simp; omega
    rw [e]
    cases gb s k <;> simp [gb_0, gb_one]
  · have : ¬ j.toNat = 0 := by omega
    split <;> simp [gb_0, gb_one, this]
