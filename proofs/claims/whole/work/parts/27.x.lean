theorem people_N {σ : Sg} {r : Nat} {n : Int} (h1 : σ.2.2 4 1 = r) (h2 : (SH r).1 = 6) (h3 : rd σ r 0 = n) (h4 : 0 ≤ n ∧ n ≤ 6) {d : Nat} {a b c e : Int} (ha : -2147483648 ≤ a ∧ a < 2147483648) (hb : -2147483648 ≤ b ∧ b < 2147483648) (hc : -2147483648 ≤ c ∧ c < 2147483648) (he : -2147483648 ≤ e ∧ e < 2147483648) :
    f_N_people (d + 2) (zI a) (zI b) (zI c) (zI e) σ = if (0 ≤ a ∧ a < n) ∧ (0 ≤ b ∧ b ≤ 9999) ∧ (0 ≤ c ∧ c ≤ 9999) ∧ 0 ≤ e ∧ e ≤ 9999 then rI (zI 1) (sI (sI (sI σ 88 a.toNat (zI b)) 89 a.toNat (zI c)) 90 a.toNat (zI e)) else rI (zI 0) σ := by
  rw [f_N_people_eq]
  simp only [cI_rI, cV_rV, cJ_rJ, rZ_0, rZ_1, rZ_z0, rZ_z1, zI_lit, zI_ofNat, zI_add, zI_sub, zI_mul, zI_neg, Int.cast_ofNat_Int, Int.reduceNeg, Int.reduceAdd, Int.reduceSub, Int.reduceMul, isName_sp h1 h2 h3 h4 ha, isNumberOf_sp hb, isNumberOf_sp hc, isNumberOf_sp he, bz_0, decide_eq_false_iff_not]
  repeat' split
  all_goals first | rfl | omega | skip
  all_goals simp (disch := first | assumption | omega) only [bnd_zI, ix_zI]
theorem people_M {σ : Sg} {n : Int} (h3 : rd σ 102 5 = n) (h4 : 0 ≤ n ∧ n ≤ 6) {d : Nat} {a b c e : Int} (ha : -2147483648 ≤ a ∧ a < 2147483648) (hb : -2147483648 ≤ b ∧ b < 2147483648) (hc : -2147483648 ≤ c ∧ c < 2147483648) (he : -2147483648 ≤ e ∧ e < 2147483648) :
    f_M_people (d + 3) (zI a) (zI b) (zI c) (zI e) σ = if (0 ≤ a ∧ a < n) ∧ (0 ≤ b ∧ b ≤ 9999) ∧ (0 ≤ c ∧ c ≤ 9999) ∧ 0 ≤ e ∧ e ≤ 9999 then rI (zI 1) (sI (sI (sI σ 103 a.toNat (zI b)) 103 (6 + a).toNat (zI c)) 103 (12 + a).toNat (zI e)) else rI (zI 0) σ := by
  rw [f_M_people_eq]
  simp (disch := first | assumption | omega) only [cI_rI, cV_rV, cJ_rJ, rZ_0, rZ_1, rZ_z0, rZ_z1, zI_lit, zI_ofNat, zI_add, zI_sub, zI_mul, zI_neg, Int.cast_ofNat_Int, Int.reduceNeg, Int.reduceAdd, Int.reduceSub, Int.reduceMul, isNameM_sp h3 h4 ha, in_sp, bz_0, decide_eq_false_iff_not]
  repeat' split
  all_goals first | rfl | omega | skip
  all_goals simp (disch := first | assumption | omega) only [bnd_zI, ix_zI, Int.zero_add]
theorem Inv.n {σ : Sg} {r p l : Nat} (h : Inv r p l σ) : σ.2.2 4 1 = r ∧ (SH r).1 = 6 ∧ (0 ≤ rd σ r 0 ∧ rd σ r 0 ≤ 6) ∧ rd σ 102 5 = rd σ r 0 := by
  obtain ⟨⟨hr, -, -, h1, -⟩, -, ⟨⟨-, -, h2, -⟩, h3, h4, -⟩, -⟩ := h
  exact ⟨h1, hr.s0, ⟨by omega, h2⟩, h4⟩
/-- cells of rows a to b -/
theorem isR.le {r : Nat} (h : isR r) : r = 7 ∨ r = 12 := h
theorem isP.le {p : Nat} (h : isP p) : p = 17 ∨ p = 25 := h
theorem isL.le {l : Nat} (h : isL l) : l = 33 ∨ l = 41 := h
theorem c_people {σ : Sg} {r p l : Nat} (h : Inv r p l σ) (a b c e : Int32) : Same (f_N_people 100 a b c e) (f_M_people 100 a b c e) σ := by
  obtain ⟨a, rfl, ha⟩ := zI_ex a
  obtain ⟨b, rfl, hb⟩ := zI_ex b
  obtain ⟨c, rfl, hc⟩ := zI_ex c
  obtain ⟨e, rfl, he⟩ := zI_ex e
  obtain ⟨h1, h2, h4, h5⟩ := h.n
  have eN := people_N h1 h2 rfl h4 (d := 98) ha hb hc he
  by_cases q : (0 ≤ a ∧ a < rd σ r 0) ∧ (0 ≤ b ∧ b ≤ 9999) ∧ (0 ≤ c ∧ c ≤ 9999) ∧ 0 ≤ e ∧ e ≤ 9999
  · rw [if_pos q] at eN
    have F : Fr (fun x _ => x == 88 || x == 89 || x == 90) σ (sI (sI (sI σ 88 a.toNat (zI b)) 89 a.toNat (zI c)) 90 a.toNat (zI e)) := (((Fr.rf _ σ).sI _ rfl).sI _ rfl).sI _ rfl
    generalize hσ1 : sI (sI (sI σ 88 a.toNat (zI b)) 89 a.toNat (zI c)) 90 a.toNat (zI e) = σ1 at eN F
    have hn1 : rd σ1 102 5 = rd σ r 0 := by rw [fr_rd F rfl, h5]
    have eM := people_M hn1 h4 (d := 97) ha hb hc he
    rw [if_pos q] at eM
    have F2 : Fr (fun x _ => x == 88 || x == 89 || x == 90 || x == 103) σ (sI (sI (sI σ1 103 a.toNat (zI b)) 103 (6 + a).toNat (zI c)) 103 (12 + a).toNat (zI e)) := (((F.mono (by intro a k; simp; omega)).sI _ rfl).sI _ rfl).sI _ rfl
    have hr := h.1.1.le; have hp := h.1.2.1.le; have hl := h.1.2.2.1.le
    refine ⟨_, _, _, r, p, l, eN, eM, h.1.fr F2, h.2.1.fr F2 ?_, h.2.2.1.fr F2 ?_, h.2.2.2.1.fr F2 ?_, h.2.2.2.2.1.fr F2 ?_, h.2.2.2.2.2.1.fr F2 ?_, ?_, h.2.2.2.2.2.2.2.fr F2 ?_⟩
    · intro a k; simp [DTape]; omega
    · intro a k; simp [DRule]; omega
    · intro a k; simp [DRoll]; omega
    · intro a k; simp [DLaw]; omega
    · intro a k; simp [DHou]; omega
    · obtain ⟨⟨v1, v2⟩, v3, v4⟩ := h.2.2.2.2.2.2.1
      have n6 := h4.2
      subst hσ1
      refine ⟨⟨fun x x0 x6 => ?_, ?_⟩, fun x x0 x6 => ?_, ?_⟩
      · have := v1 x x0 x6
        rw [show rd _ r 0 = rd σ r 0 from fr_rd F2 (by simp; omega)]
        by_cases z : x = a
        · subst z
          simp (disch := first | assumption | omega) only [rd_same, rd_other]
          omega
        · simp (disch := first | assumption | omega) only [rd_other]
          exact this
      · simp (disch := first | assumption | omega) only [rd_other]; exact v2
      · have := v3 x x0 x6
        by_cases z : x = a
        · subst z
          simp (disch := first | assumption | omega) only [rd_same, rd_other, and_self]
        · simp (disch := first | assumption | omega) only [rd_other]
          exact this
      · simp (disch := first | assumption | omega) only [rd_other]; exact v4
    · intro a k; simp [DKep, DV]; omega
  · rw [if_neg q] at eN
    have eM := people_M h5 h4 (d := 97) ha hb hc he
    rw [if_neg q] at eM
    exact ⟨_, _, _, r, p, l, eN, eM, h⟩
