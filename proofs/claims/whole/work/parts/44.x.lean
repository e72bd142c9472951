/-! who is related by a step -/
def relF (σ : Sg) (p : Nat) (k x : Int) : Int32 := if k = 0 then bitF (rd σ (p + 3) x) else if k = 1 then bitF (rd σ (p + 4) x) else if k = 2 then bitF (rd σ (p + 5) x) &&& σ.1 p 8 else if k = 3 then bitF (rd σ (p + 5) x) &&& (σ.1 p 8 ^^^ zI (-1)) else if k = 4 then σ.1 (p + 6) x.toNat &&& σ.1 p 8 else if k = 5 then σ.1 (p + 6) x.toNat &&& (σ.1 p 8 ^^^ zI (-1)) else if k = 6 then σ.1 (p + 7) x.toNat &&& σ.1 p 8 else σ.1 (p + 7) x.toNat &&& (σ.1 p 8 ^^^ zI (-1))
theorem related_sp {σ : Sg} {r p : Nat} (h : IRoll r p σ) (hp : isP p) (n6 : rd σ r 0 ≤ 6) {d : Nat} {k x : Int} (k0 : 0 ≤ k) (k1 : k < 8) (x0 : 0 ≤ x) (x1 : x < rd σ p 0) : f_Roll_related (d + 2) p (zI k) (zI x) σ = rI (relF σ p k x) σ := by
  obtain ⟨m0, m24, -⟩ := h.1
  obtain ⟨-, -, f1, g1, d1⟩ := (h.c hp).2.2 x x0
  obtain ⟨-, -, bf, bg, bd⟩ := h.1.bd n6 x0 x1
  have s0 := hp.s0; have s3 := hp.s3; have s4 := hp.s4; have s5 := hp.s5; have s6 := hp.s6; have s7 := hp.s7
  have ef := bitN_sp (σ := σ) (d := d) (a := rd σ (p + 3) x) (by omega)
  have eg := bitN_sp (σ := σ) (d := d) (a := rd σ (p + 4) x) (by omega)
  have ed := bitN_sp (σ := σ) (d := d) (a := rd σ (p + 5) x) (by omega)
  rw [f_Roll_related_eq]
  unfold relF
  rcases k8 k0 k1 with rfl | rfl | rfl | rfl | rfl | rfl | rfl | rfl
  all_goals simp (disch := first | assumption | omega) only [cI_rI, cV_rV, cJ_rJ, rZ_0, rZ_1, rZ_z0, rZ_z1, zI_lit, zI_ofNat, zI_add, zI_sub, zI_mul, zI_neg, Int.cast_ofNat_Int, Int.reduceNeg, Int.reduceAdd, Int.reduceSub, Int.reduceMul, zI_eq, zI_le, ix_zI, bnd_zI, toNat_c, Int.reduceEq, Int.reduceLT, Int.reduceNe, Int.reduceToNat, Int.reduceMul, Int.reduceAdd, Int.zero_add, if_true, if_false, reduceIte, Nat.reduceAdd, ofs_0_0, ofs_0_1, ofs_0_2, ofs_0_3, ofs_0_4, ofs_1_0, ofs_1_1, ofs_1_2, ofs_1_3, ofs_1_4, ofs_1_5, ofs_2_1, ofs_2_2, ofs_2_3, ofs_2_4, ofs_2_6, ofs_2_7, ofs_2_8, ofs_3_0, ofs_3_1, ofs_3_2, ofs_3_3, ofs_4_1, ofs_4_2, ofs_4_3, ofs_4_4, ofs_4_5, ofs_4_6, ofs_4_7, ofs_5_1, ofs_5_2, ofs_5_3, ofs_5_4, ofs_5_6, ofs_6_1, ofs_6_2, ofs_6_3, ofs_6_4, ofs_7_0, ofs_8_0, ofs_8_1, ofs_8_2, ofs_8_8, ofs_9_1, ofs_9_2, ofs_9_4, ofs_9_5, ofs_9_6, ofs_10_0, ofs_10_7, ofs_10_8, ofs_10_9, ofs_10_10, ofs_10_11, ofs_10_12, ofs_10_13, ofs_10_14, ofs_10_15, ofs_11_0, ofs_11_1, ofs_11_2, ofs_11_3, ofs_11_4, ofs_11_6, ofs_11_17, ofs_11_18, ofs_11_19, ofs_11_20, ofs_11_21, ofs_11_22, ofs_11_23, ofs_11_24, ofs_11_25, ofs_11_26, ofs_11_27, ofs_11_28, ofs_11_29, ofs_11_30, ofs_11_31, ofs_11_33, ofs_11_34, ofs_11_35, ofs_11_36, ofs_11_37, ofs_11_43, ofs_11_44, ofs_11_45, ofs_11_47, ofs_11_48, ofs_11_49, ofs_11_50, ofs_11_51, ofs_11_52, ofs_11_54, ofs_11_55, ofs_11_56, ofs_11_57, ofs_11_59, ofs_11_60, ofs_11_61, ofs_11_62, ofs_11_63, ofs_11_64, ofs_11_65, ofs_11_66, ofs_11_67, ofs_11_68, ofs_11_71, ofs_11_74, ofs_11_75, ofs_11_76, ofs_11_77, ofs_11_78, gfI_of, gfS_of, ldI_of, f1, g1, d1, ef, eg, ed]
theorem relF_bd {σ : Sg} {r p : Nat} (h : IRoll r p σ) (n6 : rd σ r 0 ≤ 6) {k x y : Int} (x0 : 0 ≤ x) (x1 : x < rd σ p 0) (y0 : 0 ≤ y) (y1 : y < 32) (q : gb (relF σ p k x) y = true) : y < rd σ p 0 := by
  obtain ⟨m0, m24, -⟩ := h.1
  obtain ⟨-, -, bf, bg, bd⟩ := h.1.bd n6 x0 x1
  obtain ⟨hc, hs⟩ := h.2.2.2.1 x y x0 x1 y0 y1
  unfold relF at q
  repeat' split at q
  · rw [gb_bitF (by omega) y0 y1] at q; have q := of_decide_eq_true q; omega
  · rw [gb_bitF (by omega) y0 y1] at q; have q := of_decide_eq_true q; omega
  · rw [gb_and, gb_bitF (by omega) y0 y1, Bool.and_eq_true] at q; have q := of_decide_eq_true q.1; omega
  · rw [gb_and, gb_bitF (by omega) y0 y1, Bool.and_eq_true] at q; have q := of_decide_eq_true q.1; omega
  · rw [gb_and, hc, Bool.and_eq_true] at q; exact (of_decide_eq_true q.1).1
  · rw [gb_and, hc, Bool.and_eq_true] at q; exact (of_decide_eq_true q.1).1
  · rw [gb_and, hs, Bool.and_eq_true] at q; exact (of_decide_eq_true q.1).1
  · rw [gb_and, hs, Bool.and_eq_true] at q; exact (of_decide_eq_true q.1).1
/-- all to whom a step leads from some -/
def relU (σ : Sg) (p : Nat) (m k : Int) (those : Int32) (s : Int32) : Prop := ∀ y, 0 ≤ y → y < 32 → (gb s y = true ↔ ∃ e, 0 ≤ e ∧ e < m ∧ gb those e = true ∧ gb (relF σ p k e) y = true)
theorem relU.eq {σ : Sg} {p : Nat} {m k : Int} {those s t : Int32} (h : relU σ p m k those s) (h' : relU σ p m k those t) : s = t := gb_ext fun y y0 y1 => by
  have a := h y y0 y1; have b := h' y y0 y1
  cases q : gb s y <;> cases q' : gb t y
  · rfl
  · rw [q'] at b; rw [a.mpr (b.mp rfl)] at q; cases q
  · rw [q] at a; rw [b.mpr (a.mp rfl)] at q'; cases q'
  · rfl
theorem orloop {m : Int} {F : Int → Int32 → Rs} {g : Int → Int32} {P : Int → Bool} {σ : Sg} (hs : ∀ i s, 0 ≤ i → i < m → F i s = F (i + 1) (if P i = true then s ||| g i else s)) (he : ∀ s, F m s = rI s σ) (m0 : 0 ≤ m) : ∃ s, F 0 (zI 0) = rI s σ ∧ ∀ y, 0 ≤ y → y < 32 → (gb s y = true ↔ ∃ e, 0 ≤ e ∧ e < m ∧ P e = true ∧ gb (g e) y = true) := by
  refine zloop (α := Int32) m F (fun i s => 0 ≤ i ∧ ∀ y, 0 ≤ y → y < 32 → (gb s y = true ↔ ∃ e, 0 ≤ e ∧ e < i ∧ P e = true ∧ gb (g e) y = true)) (fun o => ∃ s, o = rI s σ ∧ ∀ y, 0 ≤ y → y < 32 → (gb s y = true ↔ ∃ e, 0 ≤ e ∧ e < m ∧ P e = true ∧ gb (g e) y = true)) ?_ ?_ 0 (zI 0) m0 ⟨by decide, fun y y0 y1 => ?_⟩
  · rintro i s hi ⟨i0, h⟩
    refine Or.inr ⟨_, hs i s i0 hi, by omega, fun y y0 y1 => ?_⟩
    by_cases q : P i = true
    · rw [if_pos q, gb_or, Bool.or_eq_true, h y y0 y1]
      constructor
      · rintro (⟨e, e0, e1, e2, e3⟩ | h2)
        · exact ⟨e, e0, by omega, e2, e3⟩
        · exact ⟨i, i0, by omega, q, h2⟩
      · rintro ⟨e, e0, e1, e2, e3⟩
        by_cases z : e = i
        · subst z; exact Or.inr e3
        · exact Or.inl ⟨e, e0, by omega, e2, e3⟩
    · rw [if_neg q, h y y0 y1]
      constructor
      · rintro ⟨e, e0, e1, e2, e3⟩; exact ⟨e, e0, by omega, e2, e3⟩
      · rintro ⟨e, e0, e1, e2, e3⟩
        by_cases z : e = i
        · subst z; exact absurd e2 q
        · exact ⟨e, e0, by omega, e2, e3⟩
  · rintro s ⟨-, h⟩; exact ⟨s, he s, h⟩
  · rw [gb_0]
    constructor
    · intro q; cases q
    · rintro ⟨e, e0, e1, -⟩; omega
theorem relAny_sp {σ : Sg} {r p : Nat} (h : IRoll r p σ) (hp : isP p) (n6 : rd σ r 0 ≤ 6) {d : Nat} {k : Int} (k0 : 0 ≤ k) (k1 : k < 8) (those : Int32) : ∃ s, f_Roll_relatedToAny (d + 3) p (zI k) those σ = rI s σ ∧ relU σ p (rd σ p 0) k those s := by
  obtain ⟨m0, m24, -⟩ := h.1
  have em : σ.1 p 0 = zI (rd σ p 0) := rd_k _ _ _
  rw [f_Roll_relatedToAny_eq, zI_0]
  refine orloop (m := rd σ p 0) (F := fun i s => f_Roll_relatedToAny_5 (d + 2) p (zI k) those s (zI i) σ) (g := fun e => relF σ p k e) (P := fun e => gb those e) (fun i s i0 i1 => ?_) (fun s => ?_) m0
  · show f_Roll_relatedToAny_5 (d + 2) p (zI k) those s (zI i) σ = f_Roll_relatedToAny_5 (d + 2) p (zI k) those _ (zI (i + 1)) σ
    rw [f_Roll_relatedToAny_5_eq, gfI_of hp.s0, em, if_pos (by rw [zI_le (by omega) (by omega)]; exact i1), show (1 : Int32) = zI 1 from zI_lit 1, show (31 : Int32) = zI 31 from zI_lit 31, zI_0, zI_add]
    cases q : gb those i with
    | false => rw [if_pos ((gb_sh1 those i0 (by omega)).mpr q), if_neg Bool.false_ne_true]
    | true => rw [if_neg (fun z => by rw [(gb_sh1 those i0 (by omega)).mp z] at q; cases q), gdK_of hp.s0, related_sp h hp n6 k0 k1 i0 i1, cI_rI, if_pos rfl]
  · show f_Roll_relatedToAny_5 (d + 2) p (zI k) those s (zI (rd σ p 0)) σ = _
    rw [f_Roll_relatedToAny_5_eq, gfI_of hp.s0, em, if_neg Int32.lt_irrefl]
theorem thoseOf_sp {σ : Sg} {r p : Nat} (h : IRoll r p σ) (n6 : rd σ r 0 ≤ 6) {d : Nat} {k x : Int} (k0 : 0 ≤ k) (k1 : k < 8) (x0 : 0 ≤ x) (x1 : x < rd σ p 0) : f_M_thoseOf (d + 2) (zI x) (zI k) σ = rI (relF σ p k x) σ := by
  obtain ⟨m0, m24, ok⟩ := h.1
  obtain ⟨s1, -, f1, g1, d1⟩ := h.m.2 x x0 x1
  obtain ⟨bs, -, bf, bg, bd⟩ := h.1.bd n6 x0 x1
  obtain ⟨-, -, -, -, -, dd⟩ := ok x x0 x1
  have ef := bitM_sp (σ := σ) (d := d) (a := rd σ (p + 3) x) (by omega)
  have eg := bitM_sp (σ := σ) (d := d) (a := rd σ (p + 4) x) (by omega)
  have ed := bitM_sp (σ := σ) (d := d) (a := rd σ (p + 5) x) (by omega)
  have ec := childrenOf_sp h n6 (d := d) x0 x1
  have eb := siblingsOf_sp h n6 (d := d) x0 x1
  obtain ⟨o0, e0, h0⟩ := ofSort_sp (σ := σ) (d := d) h.2.1 ⟨m0, m24⟩ (fun x x0 x1 => (h.2.2.1 x x0 x1).1) (w := 0) (Or.inl rfl) fun x x0 x1 => (ok x x0 x1).1
  obtain ⟨o1, e1, h1⟩ := ofSort_sp (σ := σ) (d := d) h.2.1 ⟨m0, m24⟩ (fun x x0 x1 => (h.2.2.1 x x0 x1).1) (w := 1) (Or.inr rfl) fun x x0 x1 => (ok x x0 x1).1
  have men : o0 = σ.1 p 8 := gb_ext fun y y0 y1 => by rw [h0 y y0 y1, (h.2.2.2.2 y y0 y1).1, ← Bool.decide_and]
  -- beyond the last nobody is
  have wom : ∀ s : Int32, (∀ y, 0 ≤ y → y < 32 → gb s y = true → y < rd σ p 0) → s &&& o1 = s &&& (σ.1 p 8 ^^^ zI (-1)) := fun s hs => gb_ext fun y y0 y1 => by
    rw [gb_and, gb_and, gb_not _ y0 y1, h1 y y0 y1, (h.2.2.2.2 y y0 y1).1]
    cases q : gb s y with
    | false => rfl
    | true =>
      have hy := hs y y0 y1 q
      rw [Bool.true_and, Bool.true_and]
      rcases (ok y y0 hy).1 with e | e
      · rw [decide_eq_true hy, decide_eq_false (by omega), decide_eq_true ⟨hy, e⟩]; rfl
      · rw [decide_eq_true hy, decide_eq_true e, decide_eq_false (by omega)]; rfl
  have wc := wom (σ.1 (p + 6) x.toNat) fun y y0 y1 q => by rw [(h.2.2.2.1 x y x0 x1 y0 y1).1] at q; exact (of_decide_eq_true q).1
  have wb := wom (σ.1 (p + 7) x.toNat) fun y y0 y1 q => by rw [(h.2.2.2.1 x y x0 x1 y0 y1).2] at q; exact (of_decide_eq_true q).1
  -- husband, wife
  have hus : (if rd σ (p + 1) x = 1 then bitF (rd σ (p + 5) x) else zI 0) = bitF (rd σ (p + 5) x) &&& σ.1 p 8 := gb_ext fun y y0 y1 => by
    rw [gb_and, gb_bitF (by omega) y0 y1, (h.2.2.2.2 y y0 y1).1]
    by_cases e : rd σ (p + 1) x = 1
    · rw [if_pos e, gb_bitF (by omega) y0 y1]
      by_cases q : y = rd σ (p + 5) x
      · have : rd σ (p + 1) y = 0 := by
          rcases dd with dd | dd
          · omega
          · rw [← q] at dd; rcases (ok y y0 (by omega)).1 with g | g <;> omega
        rw [decide_eq_true q, decide_eq_true ⟨by omega, this⟩]; rfl
      · rw [decide_eq_false q]; rfl
    · rw [if_neg e, gb_0]
      by_cases q : y = rd σ (p + 5) x
      · have : rd σ (p + 1) y ≠ 0 := by
          rcases dd with dd | dd
          · omega
          · rw [← q] at dd; omega
        rw [decide_eq_true q, decide_eq_false (fun z => this z.2)]; rfl
      · rw [decide_eq_false q]; rfl
  have wif : (if rd σ (p + 1) x = 0 then bitF (rd σ (p + 5) x) else zI 0) = bitF (rd σ (p + 5) x) &&& (σ.1 p 8 ^^^ zI (-1)) := gb_ext fun y y0 y1 => by
    rw [gb_and, gb_not _ y0 y1, gb_bitF (by omega) y0 y1, (h.2.2.2.2 y y0 y1).1]
    by_cases e : rd σ (p + 1) x = 0
    · rw [if_pos e, gb_bitF (by omega) y0 y1]
      by_cases q : y = rd σ (p + 5) x
      · have : rd σ (p + 1) y ≠ 0 := by
          rcases dd with dd | dd
          · omega
          · rw [← q] at dd; omega
        rw [decide_eq_true q, decide_eq_false (fun z => this z.2)]; rfl
      · rw [decide_eq_false q]; rfl
    · rw [if_neg e, gb_0]
      by_cases q : y = rd σ (p + 5) x
      · have : rd σ (p + 1) y = 0 := by
          rcases dd with dd | dd
          · omega
          · rw [← q] at dd; rcases (ok y y0 (by omega)).1 with g | g <;> omega
        rw [decide_eq_true q, decide_eq_true ⟨by omega, this⟩]; rfl
      · rw [decide_eq_false q]; rfl
  have c1 : (zI (rd σ (p + 1) x) = zI 1) = (rd σ (p + 1) x = 1) := zI_eq (by omega) (by decide)
  have c0 : (zI (rd σ (p + 1) x) = zI 0) = (rd σ (p + 1) x = 0) := zI_eq (by omega) (by decide)
  rw [f_M_thoseOf_eq]
  unfold relF
  rcases k8 k0 k1 with rfl | rfl | rfl | rfl | rfl | rfl | rfl | rfl
  · simp (disch := first | assumption | omega) only [cI_rI, cV_rV, cJ_rJ, rZ_0, rZ_1, rZ_z0, rZ_z1, zI_lit, zI_ofNat, zI_add, zI_sub, zI_mul, zI_neg, Int.cast_ofNat_Int, Int.reduceNeg, Int.reduceAdd, Int.reduceSub, Int.reduceMul, zI_eq, zI_le, ix_zI, bnd_zI, toNat_c, Int.reduceEq, Int.reduceLT, Int.reduceNe, Int.reduceToNat, Int.reduceMul, Int.reduceAdd, Int.zero_add, if_true, if_false, reduceIte, Nat.reduceAdd, bnd_zI, f1, ef]
  · simp (disch := first | assumption | omega) only [cI_rI, cV_rV, cJ_rJ, rZ_0, rZ_1, rZ_z0, rZ_z1, zI_lit, zI_ofNat, zI_add, zI_sub, zI_mul, zI_neg, Int.cast_ofNat_Int, Int.reduceNeg, Int.reduceAdd, Int.reduceSub, Int.reduceMul, zI_eq, zI_le, ix_zI, bnd_zI, toNat_c, Int.reduceEq, Int.reduceLT, Int.reduceNe, Int.reduceToNat, Int.reduceMul, Int.reduceAdd, Int.zero_add, if_true, if_false, reduceIte, Nat.reduceAdd, bnd_zI, g1, eg]
  · simp (disch := first | assumption | omega) only [cI_rI, cV_rV, cJ_rJ, rZ_0, rZ_1, rZ_z0, rZ_z1, zI_lit, zI_ofNat, zI_add, zI_sub, zI_mul, zI_neg, Int.cast_ofNat_Int, Int.reduceNeg, Int.reduceAdd, Int.reduceSub, Int.reduceMul, toNat_c, Int.reduceEq, Int.reduceLT, Int.reduceNe, Int.reduceToNat, Int.reduceMul, Int.reduceAdd, Int.zero_add, if_true, if_false, reduceIte, Nat.reduceAdd, bnd_zI, ix_zI, s1, d1, ed, c1, show (zI 2 = zI 0) = False from eq_false (by decide), show (zI 2 = zI 1) = False from eq_false (by decide), ← hus]
    split <;> rfl
  · simp (disch := first | assumption | omega) only [cI_rI, cV_rV, cJ_rJ, rZ_0, rZ_1, rZ_z0, rZ_z1, zI_lit, zI_ofNat, zI_add, zI_sub, zI_mul, zI_neg, Int.cast_ofNat_Int, Int.reduceNeg, Int.reduceAdd, Int.reduceSub, Int.reduceMul, toNat_c, Int.reduceEq, Int.reduceLT, Int.reduceNe, Int.reduceToNat, Int.reduceMul, Int.reduceAdd, Int.zero_add, if_true, if_false, reduceIte, Nat.reduceAdd, bnd_zI, ix_zI, s1, d1, ed, c0, show (zI 3 = zI 0) = False from eq_false (by decide), show (zI 3 = zI 1) = False from eq_false (by decide), show (zI 3 = zI 2) = False from eq_false (by decide), ← wif]
    split <;> rfl
  · simp (disch := first | assumption | omega) only [cI_rI, cV_rV, cJ_rJ, rZ_0, rZ_1, rZ_z0, rZ_z1, zI_lit, zI_ofNat, zI_add, zI_sub, zI_mul, zI_neg, Int.cast_ofNat_Int, Int.reduceNeg, Int.reduceAdd, Int.reduceSub, Int.reduceMul, zI_eq, zI_le, ix_zI, bnd_zI, toNat_c, Int.reduceEq, Int.reduceLT, Int.reduceNe, Int.reduceToNat, Int.reduceMul, Int.reduceAdd, Int.zero_add, if_true, if_false, reduceIte, Nat.reduceAdd, ec, e0, men]
  · simp (disch := first | assumption | omega) only [cI_rI, cV_rV, cJ_rJ, rZ_0, rZ_1, rZ_z0, rZ_z1, zI_lit, zI_ofNat, zI_add, zI_sub, zI_mul, zI_neg, Int.cast_ofNat_Int, Int.reduceNeg, Int.reduceAdd, Int.reduceSub, Int.reduceMul, zI_eq, zI_le, ix_zI, bnd_zI, toNat_c, Int.reduceEq, Int.reduceLT, Int.reduceNe, Int.reduceToNat, Int.reduceMul, Int.reduceAdd, Int.zero_add, if_true, if_false, reduceIte, Nat.reduceAdd, ec, e1, wc]
  · simp (disch := first | assumption | omega) only [cI_rI, cV_rV, cJ_rJ, rZ_0, rZ_1, rZ_z0, rZ_z1, zI_lit, zI_ofNat, zI_add, zI_sub, zI_mul, zI_neg, Int.cast_ofNat_Int, Int.reduceNeg, Int.reduceAdd, Int.reduceSub, Int.reduceMul, zI_eq, zI_le, ix_zI, bnd_zI, toNat_c, Int.reduceEq, Int.reduceLT, Int.reduceNe, Int.reduceToNat, Int.reduceMul, Int.reduceAdd, Int.zero_add, if_true, if_false, reduceIte, Nat.reduceAdd, eb, e0, men]
  · simp (disch := first | assumption | omega) only [cI_rI, cV_rV, cJ_rJ, rZ_0, rZ_1, rZ_z0, rZ_z1, zI_lit, zI_ofNat, zI_add, zI_sub, zI_mul, zI_neg, Int.cast_ofNat_Int, Int.reduceNeg, Int.reduceAdd, Int.reduceSub, Int.reduceMul, zI_eq, zI_le, ix_zI, bnd_zI, toNat_c, Int.reduceEq, Int.reduceLT, Int.reduceNe, Int.reduceToNat, Int.reduceMul, Int.reduceAdd, Int.zero_add, if_true, if_false, reduceIte, Nat.reduceAdd, eb, e1, wb]
theorem allOfP_sp {σ : Sg} {r p : Nat} (h : IRoll r p σ) (n6 : rd σ r 0 ≤ 6) {d : Nat} {k : Int} (k0 : 0 ≤ k) (k1 : k < 8) (those : Int32) : ∃ s, f_M_allOf (d + 3) those (zI k) σ = rI s σ ∧ relU σ p (rd σ p 0) k those s := by
  obtain ⟨m0, m24, -⟩ := h.1
  have em : σ.1 102 69 = zI (rd σ p 0) := (rd_k σ 102 69).trans (congrArg zI h.2.1)
  rw [f_M_allOf_eq, zI_0]
  refine orloop (m := rd σ p 0) (F := fun i s => f_M_allOf_5 (d + 2) those (zI k) s (zI i) σ) (g := fun e => relF σ p k e) (P := fun e => gb those e) (fun i s i0 i1 => ?_) (fun s => ?_) m0
  · show f_M_allOf_5 (d + 2) those (zI k) s (zI i) σ = f_M_allOf_5 (d + 2) those (zI k) _ (zI (i + 1)) σ
    rw [f_M_allOf_5_eq, em, if_pos (by rw [zI_le (by omega) (by omega)]; exact i1), hasM_sp (by omega), cI_rI, show (1 : Int32) = zI 1 from zI_lit 1, zI_add]
    cases q : gb those i with
    | false => rw [bz_ff, if_pos (by decide), if_neg Bool.false_ne_true]
    | true => rw [bz_tt, if_neg (by decide), thoseOf_sp h n6 k0 k1 i0 i1, cI_rI, if_pos rfl]
  · show f_M_allOf_5 (d + 2) those (zI k) s (zI (rd σ p 0)) σ = _
    rw [f_M_allOf_5_eq, em, if_neg Int32.lt_irrefl]
/-! generations -/
def levN (F G : Int → Int) : Nat → Int → Int
  | 0, _ => 0
  | k + 1, e => max (if 0 ≤ F e then levN F G k (F e) + 1 else 0) (if 0 ≤ G e then levN F G k (G e) + 1 else 0)
theorem levN_st {F G : Int → Int} {m : Int} (hl : ∀ e, 0 ≤ e → e < m → (0 ≤ F e → F e < e) ∧ (0 ≤ G e → G e < e)) : ∀ (k j : Nat) (e : Int), 0 ≤ e → e < m → e < k → e < j → levN F G k e = levN F G j e
  | 0, _, e, h0, _, h1, _ => by omega
  | k + 1, 0, e, h0, _, _, h1 => by omega
  | k + 1, j + 1, e, h0, hm, h1, h2 => by
    obtain ⟨a, b⟩ := hl e h0 hm
    unfold levN
    by_cases f : 0 ≤ F e
    · by_cases g : 0 ≤ G e
      · rw [if_pos f, if_pos f, if_pos g, if_pos g, levN_st hl k j (F e) f (by have := a f; omega) (by have := a f; omega) (by have := a f; omega), levN_st hl k j (G e) g (by have := b g; omega) (by have := b g; omega) (by have := b g; omega)]
      · rw [if_pos f, if_pos f, if_neg g, if_neg g, levN_st hl k j (F e) f (by have := a f; omega) (by have := a f; omega) (by have := a f; omega)]
    · by_cases g : 0 ≤ G e
      · rw [if_neg f, if_neg f, if_pos g, if_pos g, levN_st hl k j (G e) g (by have := b g; omega) (by have := b g; omega) (by have := b g; omega)]
      · rw [if_neg f, if_neg f, if_neg g, if_neg g]
def lev (F G : Int → Int) (e : Int) : Int := levN F G 24 e
theorem lev_eq {F G : Int → Int} {m : Int} (m24 : m ≤ 24) (hl : ∀ e, 0 ≤ e → e < m → (0 ≤ F e → F e < e) ∧ (0 ≤ G e → G e < e)) {e : Int} (e0 : 0 ≤ e) (e1 : e < m) : lev F G e = max (if 0 ≤ F e then lev F G (F e) + 1 else 0) (if 0 ≤ G e then lev F G (G e) + 1 else 0) := by
  obtain ⟨a, b⟩ := hl e e0 e1
  have h := levN_st hl 24 25 e e0 e1 (by omega) (by omega)
  show levN F G 24 e = _
  rw [h]; rfl
theorem lev_bd {F G : Int → Int} {m : Int} (m24 : m ≤ 24) (hl : ∀ e, 0 ≤ e → e < m → (0 ≤ F e → F e < e) ∧ (0 ≤ G e → G e < e)) : ∀ (k : Nat) (e : Int), 0 ≤ e → e < m → e < k → 0 ≤ lev F G e ∧ lev F G e ≤ e
  | 0, e, h0, _, h1 => by omega
  | k + 1, e, h0, h1, h2 => by
    rw [lev_eq m24 hl h0 h1]
    obtain ⟨a, b⟩ := hl e h0 h1
    have A : ∀ z, 0 ≤ z → z < e → 0 ≤ lev F G z ∧ lev F G z ≤ z := fun z z0 z1 => lev_bd m24 hl k z z0 (by omega) (by omega)
    split
    · rename_i f
      have := A _ f (a f)
      split
      · rename_i g
        have := A _ g (b g); have := a f; have := b g; omega
      · have := a f; omega
    · split
      · rename_i g
        have := A _ g (b g); have := b g; omega
      · omega
theorem genN_sp {σ : Sg} {r p : Nat} (h : IRoll r p σ) (hp : isP p) (n6 : rd σ r 0 ≤ 6) {d : Nat} {x : Int} (x0 : 0 ≤ x) (x1 : x < rd σ p 0) : f_Roll_generation (d + 4) p (zI x) σ = rI (zI (lev (rd σ (p + 3)) (rd σ (p + 4)) x)) σ := by
  obtain ⟨m0, m24, ok⟩ := h.1
  have hl : ∀ e, 0 ≤ e → e < rd σ p 0 → (0 ≤ rd σ (p + 3) e → rd σ (p + 3) e < e) ∧ (0 ≤ rd σ (p + 4) e → rd σ (p + 4) e < e) := fun e e0 e1 => by
    obtain ⟨-, -, -, df, dg, -⟩ := ok e e0 e1
    omega
  have lb : ∀ e, 0 ≤ e → e < rd σ p 0 → 0 ≤ lev (rd σ (p + 3)) (rd σ (p + 4)) e ∧ lev (rd σ (p + 3)) (rd σ (p + 4)) e ≤ e := fun e e0 e1 => lev_bd m24 hl 24 e e0 e1 (by omega)
  have le := @lev_eq (rd σ (p + 3)) (rd σ (p + 4)) (rd σ p 0) m24 hl
  generalize hL : lev (rd σ (p + 3)) (rd σ (p + 4)) = L at lb le ⊢
  rw [f_Roll_generation_eq, show (1 : Int32) = zI 1 from zI_lit 1, show (31 : Int32) = zI 31 from zI_lit 31, zI_0]
  have main : ∀ (k : Nat) (j : Int) (s : Int32) (v : Value), j + k = L x → 0 ≤ j → (∃ e, 0 ≤ e ∧ e < rd σ p 0 ∧ gb s e = true ∧ L e = L x - j) → (∀ e, 0 ≤ e → e < rd σ p 0 → gb s e = true → L e ≤ L x - j) → f_Roll_generation_6 (d + 3) p v s (zI j) σ = rI (zI (L x)) σ := by
    intro k
    induction k with
    | zero =>
      intro j s v hj j0 he ha
      have := lb x x0 x1
      obtain ⟨s1, e1, u1⟩ := relAny_sp h hp n6 (d := d) (k := 0) (by decide) (by decide) s
      obtain ⟨s2, e2, u2⟩ := relAny_sp h hp n6 (d := d) (k := 1) (by decide) (by decide) s
      have emp : s1 ||| s2 = zI 0 := gb_ext fun y y0 y1 => by
        rw [gb_0, gb_or]
        cases q1 : gb s1 y with
        | true =>
          obtain ⟨e, g0, g1, g2, g3⟩ := (u1 y y0 y1).mp q1
          unfold relF at g3
          obtain ⟨-, -, bf, bg, -⟩ := h.1.bd n6 g0 g1
          rw [if_pos rfl, gb_bitF (by omega) y0 y1] at g3
          have g3 := of_decide_eq_true g3
          have a := ha e g0 g1 g2
          rw [le g0 g1, if_pos (by omega)] at a
          have := lb (rd σ (p + 3) e) (by omega) (by omega)
          split at a <;> omega
        | false =>
          cases q2 : gb s2 y with
          | true =>
            obtain ⟨e, g0, g1, g2, g3⟩ := (u2 y y0 y1).mp q2
            unfold relF at g3
            obtain ⟨-, -, bf, bg, -⟩ := h.1.bd n6 g0 g1
            rw [if_neg (by decide), if_pos rfl, gb_bitF (by omega) y0 y1] at g3
            have g3 := of_decide_eq_true g3
            have a := ha e g0 g1 g2
            rw [le g0 g1, if_pos (show 0 ≤ rd σ (p + 4) e by omega)] at a
            have := lb (rd σ (p + 4) e) (by omega) (by omega)
            split at a <;> omega
          | false => rfl
      rw [f_Roll_generation_6_eq, show (24 : Int32) = zI 24 from zI_lit 24, if_pos (by rw [zI_le (by omega) (by decide)]; omega), gdK_of hp.s0, show (0 : Int32) = zI 0 from zI_lit 0, e1, cI_rI, gdK_of hp.s0, show (1 : Int32) = zI 1 from zI_lit 1, e2, cI_rI, emp, if_pos rfl, show j = L x by omega]
    | succ k ih =>
      intro j s v hj j0 he ha
      have lx := lb x x0 x1
      obtain ⟨s1, e1, u1⟩ := relAny_sp h hp n6 (d := d) (k := 0) (by decide) (by decide) s
      obtain ⟨s2, e2, u2⟩ := relAny_sp h hp n6 (d := d) (k := 1) (by decide) (by decide) s
      -- who is a parent
      have pr : ∀ y, 0 ≤ y → y < 32 → (gb (s1 ||| s2) y = true ↔ ∃ e, 0 ≤ e ∧ e < rd σ p 0 ∧ gb s e = true ∧ (y = rd σ (p + 3) e ∨ y = rd σ (p + 4) e)) := fun y y0 y1 => by
        rw [gb_or, Bool.or_eq_true, u1 y y0 y1, u2 y y0 y1]
        constructor
        · rintro (⟨e, g0, g1, g2, g3⟩ | ⟨e, g0, g1, g2, g3⟩)
          · obtain ⟨-, -, bf, bg, -⟩ := h.1.bd n6 g0 g1
            unfold relF at g3
            rw [if_pos rfl, gb_bitF (by omega) y0 y1] at g3
            exact ⟨e, g0, g1, g2, Or.inl (of_decide_eq_true g3)⟩
          · obtain ⟨-, -, bf, bg, -⟩ := h.1.bd n6 g0 g1
            unfold relF at g3
            rw [if_neg (by decide), if_pos rfl, gb_bitF (by omega) y0 y1] at g3
            exact ⟨e, g0, g1, g2, Or.inr (of_decide_eq_true g3)⟩
        · rintro ⟨e, g0, g1, g2, g3⟩
          obtain ⟨-, -, bf, bg, -⟩ := h.1.bd n6 g0 g1
          rcases g3 with g3 | g3
          · refine Or.inl ⟨e, g0, g1, g2, ?_⟩
            unfold relF
            rw [if_pos rfl, gb_bitF (by omega) y0 y1]; exact decide_eq_true g3
          · refine Or.inr ⟨e, g0, g1, g2, ?_⟩
            unfold relF
            rw [if_neg (by decide), if_pos rfl, gb_bitF (by omega) y0 y1]; exact decide_eq_true g3
      have nx : ∃ y, 0 ≤ y ∧ y < rd σ p 0 ∧ gb (s1 ||| s2) y = true ∧ L y = L x - (j + 1) := by
        obtain ⟨e, g0, g1, g2, g3⟩ := he
        have a := le g0 g1
        obtain ⟨hf, hg⟩ := hl e g0 g1
        by_cases f : 0 ≤ rd σ (p + 3) e
        · rw [if_pos f] at a
          by_cases z : L (rd σ (p + 3) e) = L x - (j + 1)
          · exact ⟨_, f, by have := hf f; omega, (pr _ f (by have := hf f; omega)).mpr ⟨e, g0, g1, g2, Or.inl rfl⟩, z⟩
          · by_cases g : 0 ≤ rd σ (p + 4) e
            · rw [if_pos g] at a
              exact ⟨_, g, by have := hg g; omega, (pr _ g (by have := hg g; omega)).mpr ⟨e, g0, g1, g2, Or.inr rfl⟩, by omega⟩
            · rw [if_neg g] at a; exfalso
              have := lb _ f (by have := hf f; omega); omega
        · rw [if_neg f] at a
          by_cases g : 0 ≤ rd σ (p + 4) e
          · rw [if_pos g] at a
            exact ⟨_, g, by have := hg g; omega, (pr _ g (by have := hg g; omega)).mpr ⟨e, g0, g1, g2, Or.inr rfl⟩, by have := lb _ g (by have := hg g; omega); omega⟩
          · rw [if_neg g] at a; exfalso; omega
      have ne : s1 ||| s2 ≠ zI 0 := fun z => by
        obtain ⟨y, -, -, g, -⟩ := nx
        rw [z, gb_0] at g; cases g
      rw [f_Roll_generation_6_eq, show (24 : Int32) = zI 24 from zI_lit 24, if_pos (by rw [zI_le (by omega) (by decide)]; omega), gdK_of hp.s0, show (0 : Int32) = zI 0 from zI_lit 0, e1, cI_rI, gdK_of hp.s0, show (1 : Int32) = zI 1 from zI_lit 1, e2, cI_rI, if_neg ne, zI_add]
      refine ih (j + 1) _ _ (by omega) (by omega) nx fun y y0 y1 q => ?_
      obtain ⟨e, g0, g1, g2, g3⟩ := (pr y y0 (by omega)).mp q
      have a := ha e g0 g1 g2
      have b := le g0 g1
      rcases g3 with g3 | g3
      · rw [if_pos (show 0 ≤ rd σ (p + 3) e by omega), ← g3] at b; split at b <;> omega
      · rw [if_pos (show 0 ≤ rd σ (p + 4) e by omega), ← g3] at b; split at b <;> omega
  have lx := lb x x0 x1
  refine main (L x).toNat 0 _ _ (by omega) (by decide) ⟨x, x0, x1, ?_, by omega⟩ fun e e0 e1 q => ?_
  · rw [gb_sh x0 (by omega) x0 (by omega)]; exact decide_eq_true rfl
  · rw [gb_sh x0 (by omega) e0 (by omega)] at q
    rw [of_decide_eq_true q]; omega
