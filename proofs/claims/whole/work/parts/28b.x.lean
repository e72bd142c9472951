theorem m52_num {mc : Int → Int} {fac st : Int → Int32} {dp : Int} {σ : Sg} (h : MSt mc fac dp st σ) (h0 : 0 ≤ dp) (h1 : dp < 64) {d : Nat} {x1 : Value} {to q v : Int} : ∃ σ', f_M_reckonsTo_52 d x1 (zI to) (zI dp) (zI 0) (zI q) (zI 0) (zI v) σ = f_M_reckonsTo_16 d x1 (zI to) (zI (dp + 1)) (zI 0) (zI q) (.int (zI 0)) (.int (zI v)) σ' ∧ MSt mc fac (dp + 1) (up st dp (zI v)) σ' ∧ Fr S120 σ σ' := by
  refine ⟨_, ?_, h.put h0 (Int.le_refl _) (zI v)⟩
  rw [f_M_reckonsTo_52_eq, if_pos (by decide), if_pos (by decide), bnd_zI h0 (by omega) (by omega), ix_zI h0 (by omega), zI_lit, zI_add]
theorem m52_let {mc : Int → Int} {fac st : Int → Int32} {dp : Int} {σ : Sg} (h : MSt mc fac dp st σ) (h0 : 0 ≤ dp) (h1 : dp < 64) {d : Nat} {x1 : Value} {to q v : Int} (hv : 0 ≤ v) (hv' : v < 8) : ∃ σ', f_M_reckonsTo_52 d x1 (zI to) (zI dp) (zI 0) (zI q) (zI 1) (zI v) σ = f_M_reckonsTo_16 d x1 (zI to) (zI (dp + 1)) (zI 0) (zI q) (.int (zI 1)) (.int (zI v)) σ' ∧ MSt mc fac (dp + 1) (up st dp (fac v)) σ' ∧ Fr S120 σ σ' := by
  refine ⟨_, ?_, h.put h0 (Int.le_refl _) (fac v)⟩
  rw [f_M_reckonsTo_52_eq, if_neg (by decide), if_pos (by decide), if_neg (by decide), bnd_zI hv (by omega) (by omega), bnd_zI h0 (by omega) (by omega), ix_zI h0 (by omega), ix_zI hv (by omega), h.2.1 v hv hv', zI_lit, zI_add]
theorem m52_not {mc : Int → Int} {fac st : Int → Int32} {dp : Int} {σ : Sg} (h : MSt mc fac (dp + 1) st σ) (h0 : 0 ≤ dp) (h1 : dp < 64) {d : Nat} {x1 : Value} {to q v : Int} : ∃ σ', f_M_reckonsTo_52 d x1 (zI to) (zI (dp + 1)) (zI 0) (zI q) (zI 10) (zI v) σ = f_M_reckonsTo_16 d x1 (zI to) (zI (dp + 1)) (zI 0) (zI q) (.int (zI 10)) (.int (zI v)) σ' ∧ MSt mc fac (dp + 1) (up st dp (1 - st dp)) σ' ∧ Fr S120 σ σ' := by
  refine ⟨_, ?_, h.put h0 (by omega) (1 - st dp)⟩
  have e : zI (dp + 1) - 1 = zI dp := by rw [zI_lit, zI_sub]; exact congrArg zI (by omega)
  rw [f_M_reckonsTo_52_eq, if_neg (by decide), if_neg (by decide), if_pos (by decide), e, bnd_zI h0 (by omega) (by omega), bnd_zI h0 (by omega) (by omega), ix_zI h0 (by omega), h.2.2 dp h0 (by omega)]
theorem m52_and {mc : Int → Int} {fac st : Int → Int32} {dp : Int} {σ : Sg} (h : MSt mc fac (dp + 1) st σ) (h0 : 0 ≤ dp) (h1 : dp < 64) {d : Nat} {x1 : Value} {to q v : Int} :
    (st dp = 0 ∧ f_M_reckonsTo_52 d x1 (zI to) (zI (dp + 1)) (zI 0) (zI q) (zI 11) (zI v) σ = f_M_reckonsTo_16 d x1 (zI to) (zI (dp + 1)) (zI 0) (zI v) (.int (zI 11)) (.int (zI v)) σ) ∨ st dp ≠ 0 ∧ f_M_reckonsTo_52 d x1 (zI to) (zI (dp + 1)) (zI 0) (zI q) (zI 11) (zI v) σ = f_M_reckonsTo_16 d x1 (zI to) (zI dp) (zI 0) (zI q) (.int (zI 11)) (.int (zI v)) σ := by
  have e : zI (dp + 1) - 1 = zI dp := by rw [zI_lit, zI_sub]; exact congrArg zI (by omega)
  rw [f_M_reckonsTo_52_eq, if_neg (by decide), if_neg (by decide), if_neg (by decide), if_pos (by decide), e, bnd_zI h0 (by omega) (by omega), ix_zI h0 (by omega), if_neg (by decide), h.2.2 dp h0 (by omega)]
  by_cases q0 : st dp = 0
  · rw [if_pos q0, zI_add, Int.zero_add]; exact Or.inl ⟨q0, rfl⟩
  · rw [if_neg q0]; exact Or.inr ⟨q0, rfl⟩
theorem m52_or {mc : Int → Int} {fac st : Int → Int32} {dp : Int} {σ : Sg} (h : MSt mc fac (dp + 1) st σ) (h0 : 0 ≤ dp) (h1 : dp < 64) {d : Nat} {x1 : Value} {to q v : Int} :
    (st dp = 1 ∧ f_M_reckonsTo_52 d x1 (zI to) (zI (dp + 1)) (zI 0) (zI q) (zI 12) (zI v) σ = f_M_reckonsTo_16 d x1 (zI to) (zI (dp + 1)) (zI 0) (zI v) (.int (zI 12)) (.int (zI v)) σ) ∨ st dp ≠ 1 ∧ f_M_reckonsTo_52 d x1 (zI to) (zI (dp + 1)) (zI 0) (zI q) (zI 12) (zI v) σ = f_M_reckonsTo_16 d x1 (zI to) (zI dp) (zI 0) (zI q) (.int (zI 12)) (.int (zI v)) σ := by
  have e : zI (dp + 1) - 1 = zI dp := by rw [zI_lit, zI_sub]; exact congrArg zI (by omega)
  rw [f_M_reckonsTo_52_eq, if_neg (by decide), if_neg (by decide), if_neg (by decide), if_neg (by decide), if_pos (by decide), e, bnd_zI h0 (by omega) (by omega), ix_zI h0 (by omega), if_pos (by decide), h.2.2 dp h0 (by omega)]
  by_cases q0 : st dp = 1
  · rw [if_pos q0, zI_add, Int.zero_add]; exact Or.inl ⟨q0, rfl⟩
  · rw [if_neg q0]; exact Or.inr ⟨q0, rfl⟩
/-- a sign's number in the reference -/
def opN (c : Int) : Int := if c = 43 then 2 else if c = 45 then 3 else if c = 42 then 4 else if c = 47 then 5 else if c = 37 then 6 else if c = 60 then 7 else if c = 62 then 8 else 9
theorem reckonM_sp {d : Nat} {c : Int} (hc : c = 43 ∨ c = 45 ∨ c = 42 ∨ c = 47 ∨ c = 37 ∨ c = 60 ∨ c = 61 ∨ c = 62) {x y z : Int32} (hz : opV c x y = some z) (σ : Sg) : f_M_reckon (d + 1) (zI (opN c)) x y σ = rI z σ := by
  rw [f_M_reckon_eq]
  unfold opV at hz
  rcases hc with rfl | rfl | rfl | rfl | rfl | rfl | rfl | rfl
  all_goals simp (disch := first | assumption | omega) only [rd_k, toNat_c, Int.reduceEq, Int.reduceLT, Int.reduceNe, if_true, if_false, reduceIte, Nat.reduceAdd, reduceCtorEq] at hz
  all_goals simp (disch := first | assumption | omega) only [cI_rI, cV_rV, cJ_rJ, rZ_0, rZ_1, rZ_z0, rZ_z1, zI_lit, zI_ofNat, zI_add, zI_sub, zI_mul, zI_neg, Int.cast_ofNat_Int, Int.reduceNeg, Int.reduceAdd, Int.reduceSub, Int.reduceMul, zI_eq, zI_le, ix_zI, bnd_zI, rd_k, toNat_c, Int.reduceEq, Int.reduceLT, Int.reduceNe, if_true, if_false, reduceIte, Nat.reduceAdd, opN]
  all_goals first
    | (cases hz; rfl)
    | (cases hz; split <;> rename_i h <;> simp [h, bz]; done)
    | skip
  all_goals by_cases hy : y = zI 0
  all_goals simp only [hy, if_true, if_false, reduceCtorEq] at hz
  all_goals cases hz
  all_goals exact if_neg hy
theorem m52_op {mc : Int → Int} {fac st : Int → Int32} {dp : Int} {σ : Sg} (h : MSt mc fac (dp + 2) st σ) (h0 : 0 ≤ dp) (h1 : dp + 1 < 64) {d : Nat} {x1 : Value} {to q v c : Int} (hc : c = 43 ∨ c = 45 ∨ c = 42 ∨ c = 47 ∨ c = 37 ∨ c = 60 ∨ c = 61 ∨ c = 62) :
    (∃ z, opV c (st dp) (st (dp + 1)) = some z ∧ ∃ σ' x7, f_M_reckonsTo_52 (d + 1) x1 (zI to) (zI (dp + 2)) (zI 0) (zI q) (zI (opN c)) (zI v) σ = f_M_reckonsTo_16 (d + 1) x1 (zI to) (zI (dp + 1)) (zI 0) (zI q) (.int (zI (opN c))) x7 σ' ∧ MSt mc fac (dp + 1) (up st dp z) σ' ∧ Fr S120 σ σ') ∨ opV c (st dp) (st (dp + 1)) = none ∧ ∃ σ', f_M_reckonsTo_52 (d + 1) x1 (zI to) (zI (dp + 2)) (zI 0) (zI q) (zI (opN c)) (zI v) σ = rI (zI 0) σ' ∧ Fr S120 σ σ' := by
  have e : zI (dp + 2) - 1 = zI (dp + 1) := by rw [zI_lit, zI_sub]; exact congrArg zI (by omega)
  have e' : zI (dp + 1) - 1 = zI dp := by rw [zI_lit, zI_sub]; exact congrArg zI (by omega)
  -- behind the looks: the two are reckoned
  have H203 : ∀ z, opV c (st dp) (st (dp + 1)) = some z → ∃ σ' x7, f_M_reckonsTo_203 (d + 1) x1 (zI to) (zI (dp + 2) - 1) (zI 0) (zI q) (zI (opN c)) (.int (zI v)) σ = f_M_reckonsTo_16 (d + 1) x1 (zI to) (zI (dp + 1)) (zI 0) (zI q) (.int (zI (opN c))) x7 σ' ∧ MSt mc fac (dp + 1) (up st dp z) σ' ∧ Fr S120 σ σ' := by
    intro z hz
    refine ⟨_, .int (zI v), ?_, h.put h0 (by omega) z⟩
    rw [e, f_M_reckonsTo_203_eq, e', bnd_zI h0 (by omega) (by omega), bnd_zI (by omega) (by omega) (by omega), ix_zI h0 (by omega), ix_zI (by omega) (by omega), h.2.2 dp h0 (by omega), h.2.2 (dp + 1) (by omega) (by omega), reckonM_sp hc hz, cI_rI, bnd_zI h0 (by omega) (by omega)]
  have n0 : ¬ zI (opN c) = 0 ∧ ¬ zI (opN c) = 1 ∧ ¬ zI (opN c) = 10 ∧ ¬ zI (opN c) = 11 ∧ ¬ zI (opN c) = 12 := by
    rcases hc with e | e | e | e | e | e | e | e <;> subst e <;> decide
  have hd : f_M_reckonsTo_52 (d + 1) x1 (zI to) (zI (dp + 2)) (zI 0) (zI q) (zI (opN c)) (zI v) σ = if (c = 47 ∨ c = 37) ∧ st (dp + 1) = 0 then rI 0 σ else f_M_reckonsTo_203 (d + 1) x1 (zI to) (zI (dp + 2) - 1) (zI 0) (zI q) (zI (opN c)) (.int (zI v)) σ := by
    rw [f_M_reckonsTo_52_eq, if_neg n0.1, if_neg n0.2.1, if_neg n0.2.2.1, if_neg n0.2.2.2.1, if_neg n0.2.2.2.2]
    by_cases c5 : c = 47
    · subst c5
      rw [if_pos (by decide), e, bnd_zI (by omega) (by omega) (by omega), ix_zI (by omega) (by omega), h.2.2 (dp + 1) (by omega) (by omega)]
      by_cases y0 : st (dp + 1) = 0
      · rw [if_pos y0, if_pos ⟨Or.inl rfl, y0⟩]
      · rw [if_neg y0, if_neg fun z => y0 z.2]
    · by_cases c6 : c = 37
      · subst c6
        rw [if_neg (by decide), if_pos (by decide), e, bnd_zI (by omega) (by omega) (by omega), ix_zI (by omega) (by omega), h.2.2 (dp + 1) (by omega) (by omega)]
        by_cases y0 : st (dp + 1) = 0
        · rw [if_pos y0, if_pos ⟨Or.inr rfl, y0⟩]
        · rw [if_neg y0, if_neg fun z => y0 z.2]
      · have : ¬ zI (opN c) = 5 ∧ ¬ zI (opN c) = 6 := by
          rcases hc with e | e | e | e | e | e | e | e <;> subst e <;> first | decide | exact absurd rfl c5 | exact absurd rfl c6
        rw [if_neg this.1, if_neg this.2, if_neg fun z => z.1.elim c5 c6]
  rw [hd]
  by_cases q0 : (c = 47 ∨ c = 37) ∧ st (dp + 1) = 0
  · rw [if_pos q0]
    refine Or.inr ⟨?_, σ, rfl, Fr.rf _ _⟩
    obtain ⟨rfl | rfl, hy⟩ := q0 <;> rw [hy] <;> rfl
  · rw [if_neg q0]
    cases hz : opV c (st dp) (st (dp + 1)) with
    | some z => exact Or.inl ⟨z, rfl, H203 z hz⟩
    | none =>
      exfalso
      apply q0
      unfold opV at hz
      rcases hc with rfl | rfl | rfl | rfl | rfl | rfl | rfl | rfl
      all_goals simp (disch := first | assumption | omega) only [rd_k, toNat_c, Int.reduceEq, Int.reduceLT, Int.reduceNe, if_true, if_false, reduceIte, Nat.reduceAdd, reduceCtorEq] at hz
      all_goals refine ⟨by decide, ?_⟩
      all_goals by_cases hy : st (dp + 1) = zI 0
      all_goals first | exact hy | (rw [if_neg hy] at hz; cases hz)
theorem LSt.st {l la : Nat} {c w : Int → Int} {fac st st' : Int → Int32} {dp : Int} {σ : Sg} (h : LSt l la c w fac dp st σ) (e : ∀ j : Int, 0 ≤ j → j < dp → st j = st' j) : LSt l la c w fac dp st' σ := ⟨h.1, h.2.1, h.2.2.1, h.2.2.2.1, h.2.2.2.2.1, fun j a b => (h.2.2.2.2.2 j a b).trans (e j a b)⟩
theorem MSt.st {mc : Int → Int} {fac st st' : Int → Int32} {dp : Int} {σ : Sg} (h : MSt mc fac dp st σ) (e : ∀ j : Int, 0 ≤ j → j < dp → st j = st' j) : MSt mc fac dp st' σ := ⟨h.1, h.2.1, fun j a b => (h.2.2 j a b).trans (e j a b)⟩
def op2 (c : Int) (a b : Option Int32) : Option Int32 := match a with
  | none => none
  | some x => match b with
    | none => none
    | some y => opV c x y
theorem wx_op {c w mc : Int → Int} {l la : Nat} {fac : Int → Int32} (hl : isL l) (hla : la = 91 ∨ la = 96) {p m q k : Int} {va vb : Option Int32} (hc : c (q - 1) = 43 ∨ c (q - 1) = 45 ∨ c (q - 1) = 42 ∨ c (q - 1) = 47 ∨ c (q - 1) = 37 ∨ c (q - 1) = 60 ∨ c (q - 1) = 61 ∨ c (q - 1) = 62) (h0 : 0 ≤ p) (hq : q ≤ 240) (hm : CEq (c (q - 1)) (w (q - 1)) (mc (q - 1))) (hpm : p < m) (hmq : m < q - 1 ∧ 2 ≤ k) (Ca : CSem l la c w fac p m k va) (Ma : MSem mc fac p m k va) (Cb : CSem l la c w fac m (q - 1) (k - 1) vb) (Mb : MSem mc fac m (q - 1) (k - 1) vb) : CSem l la c w fac p q k (op2 (c (q - 1)) va vb) ∧ MSem mc fac p q k (op2 (c (q - 1)) va vb) := by
  refine ⟨?_, ?_⟩
  · intro d σ dp st to x1 x6 sk hst d0 d1 t0 t1 s0 s1
    rcases Ca d σ dp st to x1 x6 sk hst d0 d1 (by omega) t1 s0 s1 with ⟨x, rfl, σ1, x61, sk1, e1, s01, s11, H1, F1⟩ | ⟨rfl, σ1, e1, F1⟩
    · rcases Cb d σ1 (dp + 1) (up st dp x) to x1 x61 sk1 H1 (by omega) (by omega) (by omega) t1 s01 s11 with ⟨y, rfl, σ2, x62, sk2, e2, s02, s12, H2, F2⟩ | ⟨rfl, σ2, e2, F2⟩
      · have hx : up (up st dp x) (dp + 1) y dp = x := by unfold up; rw [if_neg (by omega), if_pos rfl]
        have hy : up (up st dp x) (dp + 1) y (dp + 1) = y := if_pos rfl
        rcases run_op hl hla (show LSt l la c w fac (dp + 2) _ σ2 by rw [show dp + 2 = dp + 1 + 1 by omega]; exact H2) d0 (by omega) (d := d + 3) (p := q - 1) (to := to) (by omega) (by omega) t1 s02 s12 x1 x62 hc with ⟨z, hz, σ3, x63, e3, H3, F3⟩ | ⟨hz, σ3, e3, F3⟩
        · rw [hx, hy] at hz
          rw [show q - 1 + 1 = q by omega] at e3
          refine Or.inl ⟨z, hz, σ3, x63, sk2, (e1.trans e2).trans e3, s02, by omega, H3.st fun j j0 j1 => ?_, (F1.tr F2).tr F3⟩
          unfold up
          split
          · rfl
          · rw [if_neg (by omega)]
        · rw [hx, hy] at hz
          exact Or.inr ⟨hz, σ3, (e1.trans e2).trans e3, (F1.tr F2).tr F3⟩
      · exact Or.inr ⟨rfl, σ2, e1.trans e2, F1.tr F2⟩
    · exact Or.inr ⟨rfl, σ1, e1, F1⟩
  · intro d σ dp st to x1 x6 x7 hst d0 d1 t0 t1
    rcases Ma d σ dp st to x1 x6 x7 hst d0 d1 (by omega) t1 with ⟨x, rfl, σ1, x61, x71, e1, H1, F1⟩ | ⟨rfl, σ1, e1, F1⟩
    · rcases Mb d σ1 (dp + 1) (up st dp x) to x1 x61 x71 H1 (by omega) (by omega) (by omega) t1 with ⟨y, rfl, σ2, x62, x72, e2, H2, F2⟩ | ⟨rfl, σ2, e2, F2⟩
      · have hx : up (up st dp x) (dp + 1) y dp = x := by unfold up; rw [if_neg (by omega), if_pos rfl]
        have hy : up (up st dp x) (dp + 1) y (dp + 1) = y := if_pos rfl
        have H2' : MSt mc fac (dp + 2) (up (up st dp x) (dp + 1) y) σ2 := by rw [show dp + 2 = dp + 1 + 1 by omega]; exact H2
        have hm' : mc (q - 1) = 1048576 * opN (c (q - 1)) + 0 ∧ 0 ≤ opN (c (q - 1)) ∧ opN (c (q - 1)) ≤ 12 := by
          unfold CEq at hm
          rcases hc with e | e | e | e | e | e | e | e <;> rw [e] at hm ⊢ <;> simp (disch := first | assumption | omega) only [opN, rd_k, toNat_c, Int.reduceEq, Int.reduceLT, Int.reduceNe, if_true, if_false, reduceIte, Nat.reduceAdd] <;> omega
        have e3 := mrun_h H2' (d := d + 1) (x1 := x1) (x6 := x62) (x7 := x72) (p := q - 1) (to := to) (n := dp + 2) (by omega) (by omega) t1 hm'.2.1 hm'.2.2 (by decide) (by decide) hm'.1
        rw [show q - 1 + 1 = q by omega] at e3
        rw [show dp + 1 + 1 = dp + 2 by omega] at e2
        rcases m52_op H2' d0 (by omega) (d := d) (x1 := x1) (to := to) (q := q) (v := 0) hc with ⟨z, hz, σ3, x73, e4, H3, F3⟩ | ⟨hz, σ3, e4, F3⟩
        · rw [hx, hy] at hz
          refine Or.inl ⟨z, hz, σ3, _, x73, ((e1.trans e2).trans e3).trans e4, H3.st fun j j0 j1 => ?_, (F1.tr F2).tr F3⟩
          unfold up
          split
          · rfl
          · rw [if_neg (by omega)]
        · rw [hx, hy] at hz
          exact Or.inr ⟨hz, σ3, ((e1.trans e2).trans e3).trans e4, (F1.tr F2).tr F3⟩
      · exact Or.inr ⟨rfl, σ2, e1.trans e2, F1.tr F2⟩
    · exact Or.inr ⟨rfl, σ1, e1, F1⟩
/-- what settles the row -/
theorem wx_skip {c w mc : Int → Int} {l la : Nat} {fac : Int → Int32} (hl : isL l) (hla : la = 91 ∨ la = 96) {p m q k : Int} {x : Int32} (h0 : 0 ≤ p) (hq : q ≤ 240) (hpm : p < m) (hmq : m < q ∧ 1 ≤ k) (hw : w m = q) (hm : CEq (c m) (w m) (mc m)) (hc : c m = 38 ∧ x = 0 ∨ c m = 124 ∧ x = 1) (Ca : CSem l la c w fac p m k (some x)) (Ma : MSem mc fac p m k (some x)) : CSem l la c w fac p q k (some x) ∧ MSem mc fac p q k (some x) := by
  refine ⟨?_, ?_⟩
  · intro d σ dp st to x1 x6 sk hst d0 d1 t0 t1 s0 s1
    rcases Ca d σ dp st to x1 x6 sk hst d0 d1 (by omega) t1 s0 s1 with ⟨x', hx', σ1, x61, sk1, e1, s01, s11, H1, F1⟩ | ⟨h, -⟩
    · cases hx'
      have hx : up st dp x dp = x := if_pos rfl
      have e2 : f_Law_run_16 (d + 5) l x1 (zI to) la (zI sk1) (zI m) x61 σ1 = f_Law_run_16 (d + 5) l x1 (zI to) la (zI (w m)) (zI (m + 1)) x61 σ1 := by
        rcases hc with ⟨hc, hx0⟩ | ⟨hc, hx0⟩
        · rcases run_and hl hla H1 d0 (by omega) (d := d + 3) (p := m) (to := to) (by omega) (by omega) t1 s01 s11 x1 x61 hc with ⟨-, e⟩ | ⟨hn, -⟩
          · exact e
          · exact absurd (hx.trans hx0) hn
        · rcases run_or hl hla H1 d0 (by omega) (d := d + 3) (p := m) (to := to) (by omega) (by omega) t1 s01 s11 x1 x61 hc with ⟨-, e⟩ | ⟨hn, -⟩
          · exact e
          · rw [hx, hx0] at hn; exact absurd hn (by decide)
      rw [hw] at e2
      have e3 := skip_run hl H1.2.2.2.2.1 (d := d + 5) (la := la) (x1 := x1) (x6 := x61) t1 t0 (m + 1) (by omega) (by omega)
      exact Or.inl ⟨x, rfl, σ1, x61, q, (e1.trans e2).trans e3, by omega, Int.le_refl _, H1, F1⟩
    · cases h
  · intro d σ dp st to x1 x6 x7 hst d0 d1 t0 t1
    rcases Ma d σ dp st to x1 x6 x7 hst d0 d1 (by omega) t1 with ⟨x', hx', σ1, x61, x71, e1, H1, F1⟩ | ⟨h, -⟩
    · cases hx'
      have hx : up st dp x dp = x := if_pos rfl
      rcases hc with ⟨hc, hx0⟩ | ⟨hc, hx0⟩
      · have hm' : mc m = 1048576 * 11 + q := by unfold CEq at hm; omega
        have e3 := mrun_h H1 (d := d + 1) (x1 := x1) (x6 := x61) (x7 := x71) (p := m) (to := to) (n := dp + 1) (by omega) (by omega) t1 (by decide) (by decide) (by omega) (by omega) hm'
        rcases m52_and H1 d0 (by omega) (d := d + 1) (x1 := x1) (to := to) (q := m + 1) (v := q) with ⟨-, e⟩ | ⟨hn, -⟩
        · exact Or.inl ⟨x, rfl, σ1, _, _, (e1.trans e3).trans e, H1, F1⟩
        · exact absurd (hx.trans hx0) hn
      · have hm' : mc m = 1048576 * 12 + q := by unfold CEq at hm; omega
        have e3 := mrun_h H1 (d := d + 1) (x1 := x1) (x6 := x61) (x7 := x71) (p := m) (to := to) (n := dp + 1) (by omega) (by omega) t1 (by decide) (by decide) (by omega) (by omega) hm'
        rcases m52_or H1 d0 (by omega) (d := d + 1) (x1 := x1) (to := to) (q := m + 1) (v := q) with ⟨-, e⟩ | ⟨hn, -⟩
        · exact Or.inl ⟨x, rfl, σ1, _, _, (e1.trans e3).trans e, H1, F1⟩
        · exact absurd (hx.trans hx0) hn
    · cases h
/-- what is not settled yet -/
theorem wx_next {c w mc : Int → Int} {l la : Nat} {fac : Int → Int32} (hl : isL l) (hla : la = 91 ∨ la = 96) {p m q k : Int} {x : Int32} {vb : Option Int32} (h0 : 0 ≤ p) (hq : q ≤ 240) (hpm : p < m) (hmq : m < q ∧ 1 ≤ k) (hw : w m = q) (hm : CEq (c m) (w m) (mc m)) (hc : c m = 38 ∧ x = 1 ∨ c m = 124 ∧ x = 0) (Ca : CSem l la c w fac p m k (some x)) (Ma : MSem mc fac p m k (some x)) (Cb : CSem l la c w fac (m + 1) q k vb) (Mb : MSem mc fac (m + 1) q k vb) : CSem l la c w fac p q k vb ∧ MSem mc fac p q k vb := by
  refine ⟨?_, ?_⟩
  · intro d σ dp st to x1 x6 sk hst d0 d1 t0 t1 s0 s1
    rcases Ca d σ dp st to x1 x6 sk hst d0 d1 (by omega) t1 s0 s1 with ⟨x', hx', σ1, x61, sk1, e1, s01, s11, H1, F1⟩ | ⟨h, -⟩
    · cases hx'
      have hx : up st dp x dp = x := if_pos rfl
      have e2 : ∃ σ', f_Law_run_16 (d + 5) l x1 (zI to) la (zI sk1) (zI m) x61 σ1 = f_Law_run_16 (d + 5) l x1 (zI to) la (zI sk1) (zI (m + 1)) x61 σ' ∧ LSt l la c w fac dp (up st dp x) σ' ∧ Fr (SL l) σ1 σ' := by
        rcases hc with ⟨hc, hx0⟩ | ⟨hc, hx0⟩
        · rcases run_and hl hla H1 d0 (by omega) (d := d + 3) (p := m) (to := to) (by omega) (by omega) t1 s01 s11 x1 x61 hc with ⟨hn, -⟩ | ⟨-, e⟩
          · rw [hx, hx0] at hn; exact absurd hn (by decide)
          · exact e
        · rcases run_or hl hla H1 d0 (by omega) (d := d + 3) (p := m) (to := to) (by omega) (by omega) t1 s01 s11 x1 x61 hc with ⟨hn, -⟩ | ⟨-, e⟩
          · exact absurd (hx.trans hx0) hn
          · exact e
      obtain ⟨σ2, e2, H2, F2⟩ := e2
      have H2' := H2.st (st' := st) fun j j0 j1 => if_neg (by omega)
      rcases Cb d σ2 dp st to x1 x61 sk1 H2' d0 d1 t0 t1 s01 (by omega) with ⟨y, hy, σ3, x63, sk3, e3, s03, s13, H3, F3⟩ | ⟨hy, σ3, e3, F3⟩
      · exact Or.inl ⟨y, hy, σ3, x63, sk3, (e1.trans e2).trans e3, s03, s13, H3, (F1.tr F2).tr F3⟩
      · exact Or.inr ⟨hy, σ3, (e1.trans e2).trans e3, (F1.tr F2).tr F3⟩
    · cases h
  · intro d σ dp st to x1 x6 x7 hst d0 d1 t0 t1
    rcases Ma d σ dp st to x1 x6 x7 hst d0 d1 (by omega) t1 with ⟨x', hx', σ1, x61, x71, e1, H1, F1⟩ | ⟨h, -⟩
    · cases hx'
      have hx : up st dp x dp = x := if_pos rfl
      have H1' : MSt mc fac dp st σ1 := ⟨H1.1, H1.2.1, fun j j0 j1 => (H1.2.2 j j0 (by omega)).trans (if_neg (by omega))⟩
      have e2 : ∃ y6 y7, f_M_reckonsTo_16 (d + 1) x1 (zI to) (zI (dp + 1)) (zI 0) (zI m) x61 x71 σ1 = f_M_reckonsTo_16 (d + 1) x1 (zI to) (zI dp) (zI 0) (zI (m + 1)) y6 y7 σ1 := by
        rcases hc with ⟨hc, hx0⟩ | ⟨hc, hx0⟩
        · have hm' : mc m = 1048576 * 11 + q := by unfold CEq at hm; omega
          have e3 := mrun_h H1 (d := d + 1) (x1 := x1) (x6 := x61) (x7 := x71) (p := m) (to := to) (n := dp + 1) (by omega) (by omega) t1 (by decide) (by decide) (by omega) (by omega) hm'
          rcases m52_and H1 d0 (by omega) (d := d + 1) (x1 := x1) (to := to) (q := m + 1) (v := q) with ⟨hn, -⟩ | ⟨-, e⟩
          · rw [hx, hx0] at hn; exact absurd hn (by decide)
          · exact ⟨_, _, e3.trans e⟩
        · have hm' : mc m = 1048576 * 12 + q := by unfold CEq at hm; omega
          have e3 := mrun_h H1 (d := d + 1) (x1 := x1) (x6 := x61) (x7 := x71) (p := m) (to := to) (n := dp + 1) (by omega) (by omega) t1 (by decide) (by decide) (by omega) (by omega) hm'
          rcases m52_or H1 d0 (by omega) (d := d + 1) (x1 := x1) (to := to) (q := m + 1) (v := q) with ⟨hn, -⟩ | ⟨-, e⟩
          · rw [hx, hx0] at hn; exact absurd hn (by decide)
          · exact ⟨_, _, e3.trans e⟩
      obtain ⟨y6, y7, e2⟩ := e2
      rcases Mb d σ1 dp st to x1 y6 y7 H1' d0 d1 t0 t1 with ⟨y, hy, σ3, x63, x73, e3, H3, F3⟩ | ⟨hy, σ3, e3, F3⟩
      · exact Or.inl ⟨y, hy, σ3, x63, x73, (e1.trans e2).trans e3, H3, F1.tr F3⟩
      · exact Or.inr ⟨hy, σ3, (e1.trans e2).trans e3, F1.tr F3⟩
    · cases h
/-- THE SAME VALUE in both -/
theorem wx_run {c w mc : Int → Int} {l la : Nat} {fac : Int → Int32} (hl : isL l) (hla : la = 91 ∨ la = 96) : ∀ {f : Nat} {b : Bool} {p q k : Int}, WX c w f b p q k → 0 ≤ p → q ≤ 240 → (∀ j, p ≤ j → j < q → CEq (c j) (w j) (mc j)) → ∃ v, CSem l la c w fac p q k v ∧ MSem mc fac p q k v ∧ (b = true → v = none ∨ v = some 0 ∨ v = some 1)
  | 0, _, _, _, _, h, _, _, _ => False.elim h
  | f + 1, false, p, q, k, h, h0, hq, hC => by
    have hlt := WX_lt h
    obtain ⟨hk, ⟨rfl, hc | ⟨hc, hw0, hw8⟩⟩ | ⟨m, ha, hb, ho⟩⟩ := h
    · -- a number
      refine ⟨some (zI (w p)), ?_, ?_, fun z => by cases z⟩
      · intro d σ dp st to x1 x6 sk hst d0 d1 t0 t1 s0 s1
        obtain ⟨σ', e, H, F⟩ := run_num hl hla hst d0 (by omega) (d := d + 4) h0 (by omega) t1 s0 s1 x1 x6 hc
        exact Or.inl ⟨_, rfl, σ', x6, sk, e, s0, by omega, H, F⟩
      · intro d σ dp st to x1 x6 x7 hst d0 d1 t0 t1
        have hm : mc p = 1048576 * 0 + w p ∧ 0 ≤ w p ∧ w p < 1048576 := by have := hC p (by omega) (by omega); unfold CEq at this; omega
        obtain ⟨σ', e, H, F⟩ := m52_num hst d0 (by omega) (d := d + 1) (x1 := x1) (to := to) (q := p + 1) (v := w p)
        exact Or.inl ⟨_, rfl, σ', _, _, (mrun_h hst h0 (by omega) t1 (by decide) (by decide) hm.2.1 hm.2.2 hm.1).trans e, H, F⟩
    · -- a letter
      refine ⟨some (fac (w p)), ?_, ?_, fun z => by cases z⟩
      · intro d σ dp st to x1 x6 sk hst d0 d1 t0 t1 s0 s1
        obtain ⟨σ', e, H, F⟩ := run_let hl hla hst d0 (by omega) (d := d + 4) h0 (by omega) t1 s0 s1 x1 x6 hc ⟨hw0, hw8⟩
        exact Or.inl ⟨_, rfl, σ', x6, sk, e, s0, by omega, H, F⟩
      · intro d σ dp st to x1 x6 x7 hst d0 d1 t0 t1
        have hm : mc p = 1048576 * 1 + w p := by have := hC p (by omega) (by omega); unfold CEq at this; omega
        obtain ⟨σ', e, H, F⟩ := m52_let hst d0 (by omega) (d := d + 1) (x1 := x1) (to := to) (q := p + 1) hw0 hw8
        exact Or.inl ⟨_, rfl, σ', _, _, (mrun_h hst h0 (by omega) t1 (by decide) (by decide) hw0 (by omega) hm).trans e, H, F⟩
    · -- two, and a sign between
      have la' := WX_lt ha; have lb' := WX_lt hb
      obtain ⟨va, Ca, Ma, -⟩ := wx_run hl hla ha h0 (by omega) fun j j0 j1 => hC j j0 (by omega)
      obtain ⟨vb, Cb, Mb, -⟩ := wx_run hl hla hb (by omega) (by omega) fun j j0 j1 => hC j (by omega) (by omega)
      have ho' : c (q - 1) = 43 ∨ c (q - 1) = 45 ∨ c (q - 1) = 42 ∨ c (q - 1) = 47 ∨ c (q - 1) = 37 ∨ c (q - 1) = 60 ∨ c (q - 1) = 61 ∨ c (q - 1) = 62 := by omega
      obtain ⟨h1, h2⟩ := wx_op hl hla (mc := mc) (fac := fac) ho' h0 hq (hC (q - 1) (by omega) (by omega)) (by omega) (by omega) Ca Ma Cb Mb
      exact ⟨_, h1, h2, fun z => by cases z⟩
  | f + 1, true, p, q, k, h, h0, hq, hC => by
    have hlt := WX_lt h
    obtain ⟨hk, ⟨m, ha, hb, ho⟩ | ⟨ha, ho⟩ | ⟨m, ha, ho, hw, hb⟩⟩ := h
    · have la' := WX_lt ha; have lb' := WX_lt hb
      obtain ⟨va, Ca, Ma, -⟩ := wx_run hl hla ha h0 (by omega) fun j j0 j1 => hC j j0 (by omega)
      obtain ⟨vb, Cb, Mb, -⟩ := wx_run hl hla hb (by omega) (by omega) fun j j0 j1 => hC j (by omega) (by omega)
      have ho' : c (q - 1) = 43 ∨ c (q - 1) = 45 ∨ c (q - 1) = 42 ∨ c (q - 1) = 47 ∨ c (q - 1) = 37 ∨ c (q - 1) = 60 ∨ c (q - 1) = 61 ∨ c (q - 1) = 62 := by omega
      obtain ⟨h1, h2⟩ := wx_op hl hla (mc := mc) (fac := fac) ho' h0 hq (hC (q - 1) (by omega) (by omega)) (by omega) (by omega) Ca Ma Cb Mb
      refine ⟨_, h1, h2, fun _ => ?_⟩
      cases va with
      | none => exact Or.inl rfl
      | some x =>
        cases vb with
        | none => exact Or.inl rfl
        | some y =>
          right
          show opV (c (q - 1)) x y = some 0 ∨ opV (c (q - 1)) x y = some 1
          unfold opV
          rcases ho with e | e | e <;> rw [e] <;> simp (disch := first | assumption | omega) only [rd_k, toNat_c, Int.reduceEq, Int.reduceLT, Int.reduceNe, if_true, if_false, reduceIte, Nat.reduceAdd, bz]
          all_goals split
          all_goals first | exact Or.inr rfl | exact Or.inl rfl
    · -- not
      have la' := WX_lt ha
      obtain ⟨va, Ca, Ma, Ba⟩ := wx_run hl hla ha h0 (by omega) fun j j0 j1 => hC j j0 (by omega)
      refine ⟨va.map (fun x => 1 - x), ?_, ?_, fun _ => ?_⟩
      · intro d σ dp st to x1 x6 sk hst d0 d1 t0 t1 s0 s1
        rcases Ca d σ dp st to x1 x6 sk hst d0 (by omega) (by omega) t1 s0 s1 with ⟨x, rfl, σ1, x6', sk', e1, s0', s1', H1, F1⟩ | ⟨rfl, σ1, e1, F1⟩
        · obtain ⟨σ2, e2, H2, F2⟩ := run_not hl hla H1 d0 (by omega) (d := d + 3) (p := q - 1) (to := to) (by omega) (by omega) t1 s0' s1' x1 x6' ho
          have hx : up st dp x dp = x := if_pos rfl
          rw [show q - 1 + 1 = q by omega] at e2
          rw [hx] at H2
          refine Or.inl ⟨1 - x, rfl, σ2, x6', sk', e1.trans e2, s0', by omega, ?_, F1.tr F2⟩
          exact H2.st fun j _ _ => by unfold up; split <;> rfl
        · exact Or.inr ⟨rfl, σ1, e1, F1⟩
      · intro d σ dp st to x1 x6 x7 hst d0 d1 t0 t1
        rcases Ma d σ dp st to x1 x6 x7 hst d0 (by omega) (by omega) t1 with ⟨x, rfl, σ1, x6', x7', e1, H1, F1⟩ | ⟨rfl, σ1, e1, F1⟩
        · have hm : mc (q - 1) = 1048576 * 10 + 0 := by have := hC (q - 1) (by omega) (by omega); unfold CEq at this; omega
          obtain ⟨σ2, e2, H2, F2⟩ := m52_not H1 d0 (by omega) (d := d + 1) (x1 := x1) (to := to) (q := q) (v := 0)
          have hx : up st dp x dp = x := if_pos rfl
          have e3 := mrun_h H1 (d := d + 1) (x1 := x1) (x6 := x6') (x7 := x7') (p := q - 1) (to := to) (n := dp + 1) (by omega) (by omega) t1 (by decide) (by decide) (by decide) (by decide) hm
          rw [show q - 1 + 1 = q by omega] at e3
          rw [hx] at H2
          refine Or.inl ⟨1 - x, rfl, σ2, _, _, (e1.trans e3).trans e2, ?_, F1.tr F2⟩
          exact H2.st fun j _ _ => by unfold up; split <;> rfl
        · exact Or.inr ⟨rfl, σ1, e1, F1⟩
      · rcases Ba rfl with e | e | e <;> rw [e]
        · exact Or.inl rfl
        · exact Or.inr (Or.inr rfl)
        · exact Or.inr (Or.inl rfl)
    · -- and, or
      have la' := WX_lt ha; have lb' := WX_lt hb
      obtain ⟨va, Ca, Ma, Ba⟩ := wx_run hl hla ha h0 (by omega) fun j j0 j1 => hC j j0 (by omega)
      obtain ⟨vb, Cb, Mb, Bb⟩ := wx_run hl hla hb (by omega) hq fun j j0 j1 => hC j (by omega) (by omega)
      have hcm := hC m (by omega) (by omega)
      rcases Ba rfl with rfl | rfl | rfl
      · refine ⟨none, ?_, ?_, fun _ => Or.inl rfl⟩
        · intro d σ dp st to x1 x6 sk hst d0 d1 t0 t1 s0 s1
          rcases Ca d σ dp st to x1 x6 sk hst d0 d1 (by omega) t1 s0 s1 with ⟨x, h, -⟩ | h
          · cases h
          · exact Or.inr h
        · intro d σ dp st to x1 x6 x7 hst d0 d1 t0 t1
          rcases Ma d σ dp st to x1 x6 x7 hst d0 d1 (by omega) t1 with ⟨x, h, -⟩ | h
          · cases h
          · exact Or.inr h
      · -- false
        rcases ho with ho | ho
        · obtain ⟨h1, h2⟩ := wx_skip hl hla h0 hq (by omega) (by omega) hw hcm (Or.inl ⟨ho, rfl⟩) Ca Ma
          exact ⟨some 0, h1, h2, fun _ => Or.inr (Or.inl rfl)⟩
        · obtain ⟨h1, h2⟩ := wx_next hl hla h0 hq (by omega) (by omega) hw hcm (Or.inr ⟨ho, rfl⟩) Ca Ma Cb Mb
          exact ⟨vb, h1, h2, Bb⟩
      · rcases ho with ho | ho
        · obtain ⟨h1, h2⟩ := wx_next hl hla h0 hq (by omega) (by omega) hw hcm (Or.inl ⟨ho, rfl⟩) Ca Ma Cb Mb
          exact ⟨vb, h1, h2, Bb⟩
        · obtain ⟨h1, h2⟩ := wx_skip hl hla h0 hq (by omega) (by omega) hw hcm (Or.inr ⟨ho, rfl⟩) Ca Ma
          exact ⟨some 1, h1, h2, fun _ => Or.inr (Or.inr rfl)⟩
