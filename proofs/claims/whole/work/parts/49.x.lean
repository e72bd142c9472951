def SA1 (a k : Nat) : Bool := a == 66 || a == 62 || (a == 61 && k == 0)
def SA2 (a k : Nat) : Bool := SA1 a k || a == 153
theorem SA1_D {r p : Nat} (hr : isR r) (hp : isP p) : ∀ a k, DRoll r p a k = true → SA1 a k = false := by
  intro a k h
  cases e : SA1 a k with
  | false => rfl
  | true =>
    unfold SA1 at e
    simp only [Bool.or_eq_true, Bool.and_eq_true, beq_iff_eq] at e
    rcases e with (rfl | rfl) | ⟨rfl, rfl⟩ <;> rcases hr with rfl | rfl <;> rcases hp with rfl | rfl <;> simp [DRoll] at h
/-- the class's row -/
theorem tell_sp {σ : Sg} {d : Nat} {a s : Int} (ha : -2147483648 ≤ a ∧ a < 2147483648) (es : rd σ 61 0 = s) (s0 : 0 ≤ s) (s1 : s ≤ 24) (w8 : ∀ x, 0 ≤ x → x < s → 0 ≤ rd σ 62 x ∧ rd σ 62 x < 8) : f_Row_tell (d + 1) (zI a) σ = rI (if a = 100 then zI s else if 0 ≤ a ∧ a < s then FC 1 (ix (zI (rd σ 62 a))) else zI (-4)) σ := by
  rw [f_Row_tell_eq, (rd_k σ 61 0).trans (congrArg zI es), show (100 : Int32) = zI 100 from zI_lit 100, zI_0, show (-4 : Int32) = zI (-4) from rfl]
  by_cases e : a = 100
  · rw [if_pos (congrArg zI e), if_pos e]
  · rw [if_neg (by rw [zI_eq ha (by decide)]; exact e), if_neg e]
    by_cases z : a < 0
    · rw [if_pos (by rw [zI_le ha (by decide)]; exact z), if_neg (by omega)]
    · rw [if_neg (by rw [zI_le ha (by decide)]; exact z)]
      by_cases y : a < s
      · have := w8 a (by omega) y
        rw [if_pos (by rw [zI_le ha (by omega)]; exact y), if_pos (by omega), bnd_zI (by omega) (by omega) (by omega), ix_zI (by omega) (by omega), rd_k, toNat_c (by omega), bnd_zI (by omega) (by omega) (by omega)]
      · rw [if_neg (by rw [zI_le ha (by omega)]; exact y), if_neg (by omega)]
theorem WK_8 {m : Int} {f : Int → Int → Int32} {q : Int} {w : Int → Int} : ∀ {j : Nat} {T : Int32} {i : Int}, WK m f q w j T i → ∀ x, i ≤ x → x < i + j → 0 ≤ w x ∧ w x < 8
  | 0, _, _, _ => fun x x0 x1 => by omega
  | j + 1, T, i, ⟨T', h, h'⟩ => fun x x0 x1 => by
    by_cases e : x = i
    · rw [e]; exact ⟨h.1, h.2.1⟩
    · exact WK_8 h' x (by omega) (by omega)
theorem c_whatIs {σ : Sg} {r p l : Nat} (h : Inv r p l σ) (x q a : Int32) : Same (f_N_whatIs 100 x q a) (f_M_whatIs 100 x q a) σ := by
  obtain ⟨x, rfl, hx⟩ := zI_ex x
  obtain ⟨q, rfl, hq⟩ := zI_ex q
  obtain ⟨a, rfl, ha⟩ := zI_ex a
  obtain ⟨n1, n2, n3, n4⟩ := h.n
  have q3 : σ.2.2 4 3 = p := h.1.2.2.2.2.2.1
  have hP := h.1.2.1
  have hR := h.1.1
  have hro := h.2.2.2.1
  obtain ⟨m0, m24, ok⟩ := id hro.1
  have iN := fun {x : Int} (hx : -2147483648 ≤ x ∧ x < 2147483648) => has_sp (σ := σ) hP.s0 rfl ⟨m0, m24⟩ (d := 98) hx
  have iM := fun {x : Int} (hx : -2147483648 ≤ x ∧ x < 2147483648) => isPersonM_sp (σ := σ) (n := rd σ p 0) hro.2.1 ⟨m0, m24⟩ (d := 97) hx
  have sN := isStep_sp (σ := σ) (d := 98) (a := a) (b := 24) ha (by decide)
  have sM := isStepOr_sp (σ := σ) (d := 97) (a := a) (b := 23) ha (by decide)
  by_cases qx : ¬ (0 ≤ x ∧ x < rd σ p 0)
  · refine ⟨-1, σ, σ, r, p, l, ?_, ?_, h⟩
    · rw [f_N_whatIs_eq, q3, gdK_of hP.s0, iN hx, cI_rI, decide_eq_false qx, bz_ff, if_pos (by decide)]
    · rw [f_M_whatIs_eq, iM hx, cI_rI, decide_eq_false qx, bz_ff, if_pos (by decide)]
  have qx := Classical.not_not.mp qx
  by_cases qq : ¬ (0 ≤ q ∧ q < rd σ p 0)
  · refine ⟨-1, σ, σ, r, p, l, ?_, ?_, h⟩
    · rw [f_N_whatIs_eq, q3, gdK_of hP.s0, iN hx, cI_rI, decide_eq_true qx, bz_tt, if_neg (by decide), q3, gdK_of hP.s0, iN hq, cI_rI, decide_eq_false qq, bz_ff, if_pos (by decide)]
    · rw [f_M_whatIs_eq, iM hx, cI_rI, decide_eq_true qx, bz_tt, if_neg (by decide), iM hq, cI_rI, decide_eq_false qq, bz_ff, if_pos (by decide)]
  have qq := Classical.not_not.mp qq
  by_cases qa : ¬ (a = 100 ∨ 0 ≤ a ∧ a < 24)
  · refine ⟨-1, σ, σ, r, p, l, ?_, ?_, h⟩
    · rw [f_N_whatIs_eq, q3, gdK_of hP.s0, iN hx, cI_rI, decide_eq_true qx, bz_tt, if_neg (by decide), q3, gdK_of hP.s0, iN hq, cI_rI, decide_eq_true qq, bz_tt, if_neg (by decide), show (24 : Int32) = zI 24 from zI_lit 24, sN, cI_rI, decide_eq_false qa, bz_ff, if_pos (by decide)]
    · rw [f_M_whatIs_eq, iM hx, cI_rI, decide_eq_true qx, bz_tt, if_neg (by decide), iM hq, cI_rI, decide_eq_true qq, bz_tt, if_neg (by decide), show (23 : Int32) = zI 23 from zI_lit 23, sM, cI_rI, decide_eq_false (show ¬ (a = 100 ∨ 0 ≤ a ∧ a < 23 + 1) from qa), bz_ff, if_pos (by decide)]
  have qa := Classical.not_not.mp qa
  have sy := fun x y x0 x1 y0 y1 => adj_symm hro n3.2 (x := x) (y := y) x0 x1 y0 y1
  -- from a store of the class on: the reference
  have mod : ∀ σ1, Fr SA1 σ σ1 → ∃ σ2, Fr SA2 σ σ2 ∧ Fr S153 σ1 σ2 ∧ LV (rd σ p 0) (relF σ p) q 24 (rd σ2 153) ∧ f_M_whatIs 100 (zI x) (zI q) (zI a) σ1 = (if rd σ2 153 x = 1000000 then rI (zI (-2)) σ2 else if a = 100 then rI (zI (rd σ2 153 x)) σ2 else if a < rd σ2 153 x then f_M_whatIs_80 99 (.int (zI x)) (.int (zI q)) (zI a) (zI (rd σ2 153 x)) (zI 1 <<< (zI x &&& zI 31)) (zI (-1)) (zI 0) σ2 else rI (zI (-4)) σ2) := by
    intro σ1 F1
    have hro1 : IRoll r p σ1 := hro.fr F1 (SA1_D hR hP)
    have em1 : rd σ1 p 0 = rd σ p 0 := fr_rd F1 (SA1_D hR hP _ _ (by simp [DRoll]))
    have en1 : rd σ1 r 0 = rd σ r 0 := fr_rd F1 (SA1_D hR hP _ _ (by simp [DRoll]))
    have ef1 : relF σ1 p = relF σ p := relF_fr F1 (SA1_D hR hP)
    obtain ⟨σ2, e2, F2, hV⟩ := laysLevels_sp hro1 hR hP (by rw [en1]; exact n3.2) (d := 96) (q := q) qq.1 (by rw [em1]; exact qq.2)
    rw [em1, ef1] at hV
    refine ⟨σ2, FrU F1 F2 (U := SA2) (fun a k e => by simp only [SA2, Bool.or_eq_false_iff] at e; exact e), F2, hV, ?_⟩
    have iM1 := fun {x : Int} (hx : -2147483648 ≤ x ∧ x < 2147483648) => isPersonM_sp (σ := σ1) (n := rd σ p 0) (hro1.2.1.trans em1) ⟨m0, m24⟩ (d := 97) hx
    have sM := isStepOr_sp (σ := σ1) (d := 97) (a := a) (b := 23) ha (by decide)
    have g1 : σ2.1 153 (ix (zI x)) = zI (rd σ2 153 x) := by rw [ix_zI qx.1 (by omega), rd_k, toNat_c qx.1]
    have lx := hV x qx.1 qx.2
    have bx : -2147483648 ≤ rd σ2 153 x ∧ rd σ2 153 x < 2147483648 := ⟨rd_lo _ _ _, rd_hi _ _ _⟩
    rw [f_M_whatIs_eq, iM1 hx, cI_rI, decide_eq_true qx, bz_tt, if_neg (by decide), iM1 hq, cI_rI, decide_eq_true qq, bz_tt, if_neg (by decide), show (23 : Int32) = zI 23 from zI_lit 23, sM, cI_rI, decide_eq_true (show a = 100 ∨ 0 ≤ a ∧ a < 23 + 1 from qa), bz_tt, if_neg (by decide), e2, cV_rV, bnd_zI qx.1 (by omega) (by omega), g1, show (1000000 : Int32) = zI 1000000 from zI_lit 1000000, show (100 : Int32) = zI 100 from zI_lit 100]
    by_cases u : rd σ2 153 x = 1000000
    · rw [if_pos (congrArg zI u), if_pos u]; rfl
    · rw [if_neg (by rw [zI_eq bx (by decide)]; exact u), if_neg u]
      by_cases w : a = 100
      · rw [if_pos (congrArg zI w), if_pos w]
      · rw [if_neg (by rw [zI_eq ha (by decide)]; exact w), if_neg w]
        by_cases s : a < rd σ2 153 x
        · rw [if_pos (by rw [zI_le ha bx]; exact s), if_pos s]; rfl
        · rw [if_neg (by rw [zI_le ha bx]; exact s), if_neg s]; rfl
  have inv : ∀ σ2, Fr SA2 σ σ2 → Inv r p l σ2 := fun σ2 F => by
    have hb := h.bits
    refine h.scr F ?_ ?_ (by rcases hb.2.2 with rfl | rfl <;> rfl) (by rcases hb.2.2 with rfl | rfl <;> repeat (first | exact trivial | refine ⟨fun _ => rfl, ?_⟩ | refine ⟨rfl, ?_⟩)) ?_ ⟨rfl, rfl⟩
    all_goals repeat (first | exact trivial | refine ⟨fun _ => rfl, ?_⟩ | refine ⟨rfl, ?_⟩)
  obtain ⟨v, σ1, e1, F1, hv⟩ := layersFrom_sp hro hR hP n3.2 (d := 94) (q := q) (x := x) qq.1 qq.2 qx.1 qx.2
  have F1' : Fr SA1 σ (sI σ1 61 0 (zI v)) := (F1.mono fun a k e => by simp only [SA1, Bool.or_eq_false_iff] at e; exact e.1.1).sI _ rfl
  have start : f_N_whatIs 100 (zI x) (zI q) (zI a) σ = cI (f_Row_findOnPeople 99 p (zI x) (zI q) σ) fun v8 σ7 => if v8 = 0 then rI (-2) σ7 else cI (f_Row_tell 99 (zI a) σ7) fun v10 σ9 => rI v10 σ9 := by
    rw [f_N_whatIs_eq, q3, gdK_of hP.s0, iN hx, cI_rI, decide_eq_true qx, bz_tt, if_neg (by decide), q3, gdK_of hP.s0, iN hq, cI_rI, decide_eq_true qq, bz_tt, if_neg (by decide), show (24 : Int32) = zI 24 from zI_lit 24, sN, cI_rI, decide_eq_true qa, bz_tt, if_neg (by decide), q3]
  have e61 : (sI σ1 61 0 (zI v)).1 61 0 = zI v := sI_same _ _ _ _
  rcases hv with ⟨rfl, no⟩ | ⟨v0, v24, vl, far⟩
  · obtain ⟨σ2, F2, F2', hV, eM⟩ := mod _ F1'
    have u : rd σ2 153 x = 1000000 := by
      rcases hV x qx.1 qx.2 with ⟨j, j1, jl, -⟩ | ⟨-, c⟩
      · exact absurd jl (no j (by omega))
      · exact c
    refine ⟨zI (-2), _, σ2, r, p, l, ?_, by rw [eM, if_pos u], inv σ2 F2⟩
    rw [start, f_Row_findOnPeople_eq, e1, cI_rI]
    show cI (if (sI σ1 61 0 (zI (-1))).1 61 0 < 0 then rZ 0 (sI σ1 61 0 (zI (-1))) else _) _ = _
    rw [e61, if_pos (by decide), rZ_0, cI_rI, if_pos (by decide)]; rfl
  · -- the walk of the class
    have hro1 : IRoll r p (sI σ1 61 0 (zI v)) := hro.fr F1' (SA1_D hR hP)
    have em1 : rd (sI σ1 61 0 (zI v)) p 0 = rd σ p 0 := fr_rd F1' (SA1_D hR hP _ _ (by simp [DRoll]))
    have en1 : rd (sI σ1 61 0 (zI v)) r 0 = rd σ r 0 := fr_rd F1' (SA1_D hR hP _ _ (by simp [DRoll]))
    have ef1 : relF (sI σ1 61 0 (zI v)) p = relF σ p := relF_fr F1' (SA1_D hR hP)
    have b0 : ∀ y, 0 ≤ y → y < 32 → (gb (zI 1 <<< (zI x &&& zI 31)) y = true ↔ y = x) := fun y y0 y1 => by rw [gb_sh qx.1 (by omega) y0 y1]; exact decide_eq_true_iff
    obtain ⟨σ2, e2, F2, -, hw⟩ := walkN hR hP (d := 94) (q := q) (m := rd σ p 0) (f := relF σ p) qq.1 qq.2 m24 sy (s := v) (by omega) v.toNat 0 (zI 1 <<< (zI x &&& zI 31)) (sI σ1 61 0 (zI v)) (.int (zI x)) (.int (zI q)) hro1 (by rw [en1]; exact n3.2) em1 ef1 (rd_same rfl (by omega) (by omega)) (by omega) (by decide) (fun y hy z z0 z1 => by
      rw [sI_row _ _ _ _ _ (by decide)]; exact far y (by omega) z z0 z1) ⟨fun y y0 y1 g => by rw [(b0 y y0 y1).mp g]; exact vl, x, qx.1, by omega, (b0 x qx.1 (by omega)).mpr rfl⟩
    have F2' : Fr SA1 σ σ2 := F1'.tr (F2.mono fun a k e => by simp only [SA1, Bool.or_eq_false_iff] at e; exact e.1.2)
    have es2 : rd σ2 61 0 = v := (fr_rd F2 rfl).trans (rd_same rfl (by omega) (by omega))
    have w8 := WK_8 hw
    have eN : f_N_whatIs 100 (zI x) (zI q) (zI a) σ = rI (if a = 100 then zI v else if 0 ≤ a ∧ a < v then FC 1 (ix (zI (rd σ2 62 a))) else zI (-4)) σ2 := by
      rw [start, f_Row_findOnPeople_eq, e1, cI_rI]
      show cI (if (sI σ1 61 0 (zI v)).1 61 0 < 0 then rZ 0 (sI σ1 61 0 (zI v)) else f_Row_findOnPeople_28 98 p (.int (zI x)) (.int (zI q)) (1 <<< (zI x &&& 31)) 0 (sI σ1 61 0 (zI v))) _ = _
      rw [e61, zI_0, if_neg (by rw [zI_le (by omega) (by decide)]; omega), show (1 : Int32) = zI 1 from zI_lit 1, show (31 : Int32) = zI 31 from zI_lit 31, e2, rZ_1, cI_rI, if_neg (by decide), tell_sp ha es2 v0 (by omega) (fun y y0 y1 => w8 y y0 (by omega)), cI_rI]
    obtain ⟨σ3, F3, F3', hV, eM⟩ := mod _ F2'
    have ex : rd σ3 153 x = v := by
      rcases hV x qx.1 qx.2 with ⟨j, j1, jl, jc⟩ | ⟨no, -⟩
      · have := lyr_one jl vl; omega
      · exact absurd vl (no _ (by omega))
    refine ⟨_, σ2, σ3, r, p, l, eN, ?_, inv σ3 F3⟩
    rw [eM, ex, if_neg (by omega)]
    by_cases w : a = 100
    · rw [if_pos w, if_pos w]
    · rw [if_neg w, if_neg w]
      by_cases s : a < v
      · have SD : ∀ a k, DRoll r p a k = true → SA2 a k = false := fun a k e => by
          have z1 := SA1_D hR hP a k e
          have z2 := S153_D hR hP a k e
          unfold S153 at z2
          unfold SA2
          rw [z1, z2]; rfl
        have hro3 : IRoll r p σ3 := hro.fr F3 SD
        have em3 : rd σ3 p 0 = rd σ p 0 := fr_rd F3 (SD _ _ (by simp [DRoll]))
        have en3 : rd σ3 r 0 = rd σ r 0 := fr_rd F3 (SD _ _ (by simp [DRoll]))
        have ef3 : relF σ3 p = relF σ p := relF_fr F3 SD
        obtain ⟨z1, z2, z3⟩ := walkM hro3 (by rw [en3]; exact n3.2) (d := 94) (q := q) (a := a) (w := rd σ2 62) qq.1 (by rw [em3]; exact qq.2) (by rw [em3, ef3]; exact hV) (by omega) (by omega) v.toNat 0 (zI 1 <<< (zI x &&& zI 31)) (-1) (.int (zI x)) (.int (zI q)) (by omega) (by decide) (by omega) (Or.inl (by omega)) (by rw [em3, ef3]; exact hw) (fun e => by omega)
        rw [toNat_c v0] at z1
        rw [if_pos s, if_pos ⟨by omega, s⟩, z1]
      · rw [if_neg s, if_neg (fun z => s z.2)]
