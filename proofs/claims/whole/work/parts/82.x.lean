/-! all rules, in the class -/
def SRc (q a k : Nat) : Bool := a == q + 1 || a == q + 2 || a == q + 3 || a == q + 4 || S7z a k
theorem turnRound_sp {σ : Sg} {r d : Nat} (hr : isR r) {n : Int} (n0 : 0 ≤ n) (n6 : n ≤ 6) (e0 : σ.1 r 0 = zI n) {w c : Int → Int} (hw : onN n w) (hc : onN n c) (eW : ∀ x, 0 ≤ x → x < n → σ.1 (r + 1) x.toNat = zI (w x)) (eC : ∀ x, 0 ≤ x → x < n → σ.1 (r + 3) x.toNat = zI (c x)) : ∃ σ', f_Rule_turnRound (d + 1) r σ = rV σ' ∧ Fr (fun b _ => b == r + 2 || b == r + 4) σ σ' ∧ ∀ x, 0 ≤ x → x < n → σ'.1 (r + 2) (w x).toNat = zI x ∧ σ'.1 (r + 4) (c x).toNat = zI x := by
  have main : ∀ (k : Nat) (i : Int) (τ : Sg), i + k = n → 0 ≤ i → Fr (fun b _ => b == r + 2 || b == r + 4) σ τ → (∀ x, 0 ≤ x → x < i → τ.1 (r + 2) (w x).toNat = zI x ∧ τ.1 (r + 4) (c x).toNat = zI x) → ∃ σ', f_Rule_turnRound_2 d r (zI i) τ = rV σ' ∧ Fr (fun b _ => b == r + 2 || b == r + 4) σ σ' ∧ ∀ x, 0 ≤ x → x < n → σ'.1 (r + 2) (w x).toNat = zI x ∧ σ'.1 (r + 4) (c x).toNat = zI x := by
    intro k
    induction k with
    | zero =>
      intro i τ hi i0 F h
      have : i = n := by omega
      subst this
      refine ⟨τ, ?_, F, h⟩
      rw [f_Rule_turnRound_2_eq, gfI_of hr.s0, F.2 _ _ (by simp), e0, if_neg Int32.lt_irrefl]
    | succ k ih =>
      intro i τ hi i0 F h
      have i1 : i < n := by omega
      have wb := hw.1 i i0 i1
      have cb := hc.1 i i0 i1
      have ew : τ.1 (r + 1) i.toNat = zI (w i) := (F.2 _ _ (by simp)).trans (eW i i0 i1)
      have ec : (sI τ (r + 2) (w i).toNat (zI i)).1 (r + 3) i.toNat = zI (c i) := by rw [sI_row _ _ _ _ _ (by omega)]; exact (F.2 _ _ (by simp)).trans (eC i i0 i1)
      obtain ⟨σ', a1, a2⟩ := ih (i + 1) (sI (sI τ (r + 2) (w i).toNat (zI i)) (r + 4) (c i).toNat (zI i)) (by omega) (by omega) ((F.sI _ (by simp)).sI _ (by simp)) fun x x0 x1 => by
        have wx := hw.1 x x0 (by omega)
        have cx := hc.1 x x0 (by omega)
        rw [sI_row _ _ _ _ _ (by omega)]
        by_cases z : x = i
        · subst z; rw [sI_same, sI_same]; exact ⟨rfl, rfl⟩
        · have h1 : w x ≠ w i := fun q => z (hw.2 x i x0 (by omega) i0 i1 q)
          have h2 : c x ≠ c i := fun q => z (hc.2 x i x0 (by omega) i0 i1 q)
          rw [sI_slot _ _ _ _ (by omega), sI_slot _ _ _ _ (by omega), sI_row _ _ _ _ _ (by omega)]
          exact h x x0 (by omega)
      refine ⟨σ', ?_, a2⟩
      rw [f_Rule_turnRound_2_eq, gfI_of hr.s0, F.2 _ _ (by simp), e0, if_pos (by rw [zI_le (by omega) (by omega)]; exact i1), gfS_of hr.s0, gfS_of hr.s0, ofs_6_1, ofs_6_2, ldi_of hr.s1 i0 (by omega) (by omega), ew, stI_of hr.s2 wb.1 (by omega) (by omega), gfS_of hr.s0, gfS_of hr.s0, ofs_6_3, ofs_6_4, ldi_of hr.s3 i0 (by omega) (by omega), ec, stI_of hr.s4 cb.1 (by omega) (by omega), show (1 : Int32) = zI 1 from zI_lit 1, zI_add]
      exact a1
  rw [f_Rule_turnRound_eq, zI_0]
  exact main n.toNat 0 σ (by omega) (by decide) (Fr.rf _ _) fun x x0 x1 => by omega
theorem rd_of {σ : Sg} {a : Nat} {x v : Int} (h : σ.1 a x.toNat = zI v) (v0 : -2147483648 ≤ v) (v1 : v < 2147483648) : rd σ a x = v := by unfold rd; rw [h, zI_toInt v0 v1]
theorem ruleOf {σ : Sg} {r : Nat} (hr : isR r) {n : Int} (n6 : n ≤ 6) (e0 : σ.1 r 0 = zI n) (n0 : 0 ≤ n) {w c : Int → Int} (hw : onN n w) (hc : onN n c) (eW : ∀ x, 0 ≤ x → x < n → σ.1 (r + 1) x.toNat = zI (w x)) (eC : ∀ x, 0 ≤ x → x < n → σ.1 (r + 3) x.toNat = zI (c x)) (eH : ∀ x, 0 ≤ x → x < n → σ.1 (r + 2) (w x).toNat = zI x) (eM : ∀ x, 0 ≤ x → x < n → σ.1 (r + 4) (c x).toNat = zI x) : RuleAt σ r n ∧ EqN n (rd σ (r + 1)) w ∧ EqN n (rd σ (r + 2)) (ivF w n.toNat) ∧ EqN n (rd σ (r + 3)) c ∧ EqN n (rd σ (r + 4)) (ivF c n.toNat) := by
  have q1 : EqN n (rd σ (r + 1)) w := fun x x0 x1 => rd_of (eW x x0 x1) (by have := hw.1 x x0 x1; omega) (by have := hw.1 x x0 x1; omega)
  have q3 : EqN n (rd σ (r + 3)) c := fun x x0 x1 => rd_of (eC x x0 x1) (by have := hc.1 x x0 x1; omega) (by have := hc.1 x x0 x1; omega)
  have q2 : EqN n (rd σ (r + 2)) (ivF w n.toNat) := fun x x0 x1 => by
    have b := ivF_ok hw x0 x1
    have := eH _ b.1 b.2.1
    rw [b.2.2.1] at this
    exact rd_of this (by omega) (by omega)
  have q4 : EqN n (rd σ (r + 4)) (ivF c n.toNat) := fun x x0 x1 => by
    have b := ivF_ok hc x0 x1
    have := eM _ b.1 b.2.1
    rw [b.2.2.1] at this
    exact rd_of this (by omega) (by omega)
  refine ⟨⟨hr, rd_of (x := 0) e0 (by omega) (by omega), (NmOk.iv n6 hw hc).congr q1 q2 q3 q4⟩, q1, q2, q3, q4⟩
theorem someWeds_sp {σ : Sg} {r d : Nat} (hr : isR r) {n : Int} (n0 : 0 ≤ n) (n6 : n ≤ 6) (e0 : σ.1 r 0 = zI n) {w : Int → Int} (hw : onN n w) (eW : ∀ x, 0 ≤ x → x < n → σ.1 (r + 1) x.toNat = zI (w x)) : ∃ b, f_Rule_someWedsOwnName (d + 1) r σ = rI (bz b) σ ∧ (b = false ↔ ∀ x, 0 ≤ x → x < n → w x ≠ x) := by
  have main : ∀ (k : Nat) (i : Int), i + k = n → 0 ≤ i → (∀ x, 0 ≤ x → x < i → w x ≠ x) → ∃ b, f_Rule_someWedsOwnName_2 d r (zI i) σ = rI (bz b) σ ∧ (b = false ↔ ∀ x, 0 ≤ x → x < n → w x ≠ x) := by
    intro k
    induction k with
    | zero =>
      intro i hi i0 h
      have : i = n := by omega
      subst this
      refine ⟨false, ?_, fun _ => h, fun _ => rfl⟩
      rw [f_Rule_someWedsOwnName_2_eq, gfI_of hr.s0, e0, if_neg Int32.lt_irrefl, zI_0, rZ_z0]; rfl
    | succ k ih =>
      intro i hi i0 h
      have wb := hw.1 i i0 (by omega)
      rw [f_Rule_someWedsOwnName_2_eq, gfI_of hr.s0, e0, if_pos (by rw [zI_le (by omega) (by omega)]; omega), gfS_of hr.s0, ofs_6_1, ldi_of hr.s1 i0 (by omega) (by omega), eW i i0 (by omega), show (1 : Int32) = zI 1 from zI_lit 1, zI_add]
      by_cases z : w i = i
      · rw [if_pos (congrArg zI z), rZ_z1]
        exact ⟨true, rfl, fun q => (by cases q), fun q => absurd z (q i i0 (by omega))⟩
      · rw [if_neg (by rw [zI_eq (by omega) (by omega)]; exact z)]
        exact ih (i + 1) (by omega) (by omega) fun x x0 x1 => by
          by_cases q : x = i
          · rw [q]; exact z
          · exact h x x0 (by omega)
  rw [f_Rule_someWedsOwnName_eq, zI_0]
  exact main n.toNat 0 (by omega) (by decide) fun x x0 x1 => by omega
theorem alwaysLawful_sp {σ : Sg} {r d : Nat} {n : Int} {W : WS} (c : CWo 49 W σ) (ok : WOk W) (w1 : 1 ≤ W.size) (hr : RuleAt σ r n) (n0 : 0 ≤ n) {w ch : Int → Int} (hw : onN n w) (hc : onN n ch) (q1 : EqN n (rd σ (r + 1)) w) (q2 : EqN n (rd σ (r + 2)) (ivF w n.toNat)) (q3 : EqN n (rd σ (r + 3)) ch) (q4 : EqN n (rd σ (r + 4)) (ivF ch n.toNat)) : ∃ b, f_Word_alwaysLawful (d + 4) 49 r (zI 0) σ = rI (bz b) σ ∧ (b = true ↔ AL n W w ch) := by
  have n6 := hr.2.2.1
  have e0 : σ.1 r 0 = zI n := by rw [rd_k]; exact congrArg zI hr.2.1
  have nm := NmOk.iv n6 hw hc
  have lw : ∀ x, 0 ≤ x → x < n → (lwF (rd σ (r + 1)) (rd σ (r + 2)) (fOf σ r W 0) (W.st (W.size - 1) % 2) 0 x = true ↔ W.st (W.size - 1) % 2 ≠ 0 ∧ fP n W w ch x = w x) := fun x x0 x1 => by
    unfold lwF
    rw [decide_eq_true_eq]
    have e1 : fOf σ r W 0 x = fP n W w ch x := ldF_congr (G := goF w (ivF w n.toNat) ch (ivF ch n.toNat)) (G' := gOf σ r) (fun k s => ⟨fun y y0 y1 => goF_lt nm y0 y1, fun y z y0 y1 z0 z1 e => goF_inj nm y0 y1 z0 z1 e⟩) (fun k s y y0 y1 => goF_congr nm q1 q2 q3 q4 k s y0 y1) _ _ _ _ x0 x1
    have e2 : spF (rd σ (r + 1)) (rd σ (r + 2)) 0 x = w x := by unfold spF; rw [if_pos rfl, q1 x x0 x1]
    rw [e1, e2]
  have main : ∀ (k : Nat) (i : Int), i + k = n → 0 ≤ i → (∀ x, 0 ≤ x → x < i → W.st (W.size - 1) % 2 ≠ 0 ∧ fP n W w ch x = w x) → ∃ b, f_Word_alwaysLawful_2 (d + 3) 49 r (zI 0) (zI i) σ = rI (bz b) σ ∧ (b = true ↔ AL n W w ch) := by
    intro k
    induction k with
    | zero =>
      intro i hi i0 h
      have : i = n := by omega
      subst this
      refine ⟨true, ?_, fun _ => h, fun _ => rfl⟩
      rw [f_Word_alwaysLawful_2_eq, gfI_of hr.1.s0, e0, if_neg Int32.lt_irrefl, show (1 : Int32) = zI 1 from zI_lit 1, rZ_z1]; rfl
    | succ k ih =>
      intro i hi i0 h
      have i1 : i < n := by omega
      have l := lw i i0 i1
      rw [f_Word_alwaysLawful_2_eq, gfI_of hr.1.s0, e0, if_pos (by rw [zI_le (by omega) (by omega)]; omega), gdK_of (show (SH 49).1 = 9 from rfl), isLawful_sp (Or.inl rfl) c ok w1 hr (Or.inl rfl) i0 i1, cI_rI, zI_0, show (1 : Int32) = zI 1 from zI_lit 1, zI_add]
      cases z : lwF (rd σ (r + 1)) (rd σ (r + 2)) (fOf σ r W 0) (W.st (W.size - 1) % 2) 0 i with
      | false =>
        rw [bz_ff, if_pos rfl, rZ_z0]
        refine ⟨false, rfl, fun q => (by cases q), fun q => ?_⟩
        rw [l.mpr (q i i0 i1)] at z; cases z
      | true =>
        rw [bz_tt, if_neg (by decide)]
        exact ih (i + 1) (by omega) (by omega) fun x x0 x1 => by
          by_cases q : x = i
          · rw [q]; exact l.mp z
          · exact h x x0 (by omega)
  rw [f_Word_alwaysLawful_eq, zI_0]
  exact main n.toNat 0 (by omega) (by decide) fun x x0 x1 => by omega
noncomputable def PG (n : Int) (Wd : WS) (ev : Bool) (t : Int) : Bool := @decide (GD n Wd ev (uRow n.toNat (t.toNat / fac n.toNat)) (uRow n.toNat (t.toNat % fac n.toNat))) (Classical.propDecidable _)
theorem PG_iff {n : Int} {Wd : WS} {ev : Bool} {i j : Nat} (hj : j < fac n.toNat) : PG n Wd ev ((i * fac n.toNat + j : Nat) : Int) = true ↔ GD n Wd ev (uRow n.toNat i) (uRow n.toNat j) := by
  unfold PG
  rw [@decide_eq_true_eq _ (Classical.propDecidable _), Int.toNat_natCast]
  have e1 : (i * fac n.toNat + j) / fac n.toNat = i := by
    rw [Nat.mul_comm, Nat.mul_add_div (by omega), Nat.div_eq_of_lt hj]; rfl
  have e2 : (i * fac n.toNat + j) % fac n.toNat = j := by
    rw [Nat.mul_comm, Nat.mul_add_mod, Nat.mod_eq_of_lt hj]
  rw [e1, e2]
theorem cnt_gap {P : Int → Bool} {a : Nat} : ∀ b : Nat, (∀ t : Nat, a ≤ t → t < a + b → P (t : Int) = false) → cnt P (a + b) = cnt P a
  | 0, _ => rfl
  | b + 1, h => by
    rw [← Nat.add_assoc, cnt_s, cnt_gap b fun t t0 t1 => h t t0 (by omega), h (a + b) (by omega) (by omega), if_neg Bool.false_ne_true, Int.add_zero]
theorem rules53_sp {σ : Sg} {q d : Nat} (hq : isR q) {n : Int} (n2 : 2 ≤ n) (n5 : n ≤ 5) (eq0 : σ.1 q 0 = zI n) {W : WS} (c : CWo 49 W σ) (ok : WOk W) (w1 : 1 ≤ W.size) {what : Int} (h01 : what = 0 ∨ what = 1) {i : Nat} (hi : i < fac n.toNat) (hne : ∀ x, 0 ≤ x → x < n → uRow n.toNat i x ≠ x) : ∀ (k j : Nat) (τ : Sg), j + k = fac n.toNat → Fr (SRc q) σ τ → (∀ x, 0 ≤ x → x < n → τ.1 (q + 1) x.toNat = zI (uRow n.toNat i x)) → ∃ τ' v', f_N_rulesForWord_53 (d + 4) (zI n) (zI what) q (zI ((fac n.toNat : Nat) : Int)) (zI (cnt (PG n W (decide (what = 1))) (i * fac n.toNat + j))) (zI (i : Int)) (zI (j : Int)) τ = f_N_rulesForWord_23 (d + 4) (zI n) (zI what) q (zI ((fac n.toNat : Nat) : Int)) (zI (cnt (PG n W (decide (what = 1))) ((i + 1) * fac n.toNat))) (zI ((i + 1 : Nat) : Int)) v' τ' ∧ Fr (SRc q) σ τ' := by
  have fb := fac_bd n.toNat (by omega)
  have hS0 : ∀ k, SRc q q k = false := fun k => by rcases hq with rfl | rfl <;> rfl
  intro k
  induction k with
  | zero =>
    intro j τ hj F hτ
    have : j = fac n.toNat := by omega
    subst this
    refine ⟨τ, .int (zI ((fac n.toNat : Nat) : Int)), ?_, F⟩
    rw [f_N_rulesForWord_53_eq, if_neg Int32.lt_irrefl, show (1 : Int32) = zI 1 from zI_lit 1, zI_add, Nat.succ_mul]
    rfl
  | succ k ih =>
    intro j τ hj F hτ
    have j1 : j < fac n.toNat := by omega
    obtain ⟨ui, -⟩ := uRow_ok (n := n.toNat) (by omega) (by omega) hi
    obtain ⟨uj, lj, -⟩ := uRow_ok (n := n.toNat) (by omega) (by omega) j1
    rw [show ((n.toNat : Nat) : Int) = n by omega] at ui uj
    obtain ⟨τ1, a1, F1, a2⟩ := unpack_sp (σ := τ) (d := d + 2) hq.s3 n2 (by omega) (num := j) (by omega) uj lj
    have F01 : Fr (SRc q) σ τ1 := F.tr (F1.mono fun b m e => by simp only [SRc, Bool.or_eq_false_iff] at e; exact e.1.1.2)
    have w1' : ∀ x, 0 ≤ x → x < n → τ1.1 (q + 1) x.toNat = zI (uRow n.toNat i x) := fun x x0 x1 => (F1.2 _ _ (by simp)).trans (hτ x x0 x1)
    obtain ⟨τ2, t1, F2, t2⟩ := turnRound_sp (σ := τ1) (d := d + 3) hq (by omega) (by omega) ((F01.2 _ _ (hS0 0)).trans eq0) ui uj w1' a2
    have F02 : Fr (SRc q) σ τ2 := F01.tr (F2.mono fun b m e => by
      simp only [SRc, Bool.or_eq_false_iff] at e
      rw [e.1.1.1.2, e.1.2]; rfl)
    have w2' : ∀ x, 0 ≤ x → x < n → τ2.1 (q + 1) x.toNat = zI (uRow n.toNat i x) := fun x x0 x1 => (F2.2 _ _ (by simp)).trans (w1' x x0 x1)
    have c2' : ∀ x, 0 ≤ x → x < n → τ2.1 (q + 3) x.toNat = zI (uRow n.toNat j x) := fun x x0 x1 => (F2.2 _ _ (by simp)).trans (a2 x x0 x1)
    obtain ⟨hr, q1, q2, q3, q4⟩ := ruleOf (σ := τ2) hq (by omega) ((F02.2 _ _ (hS0 0)).trans eq0) (by omega) ui uj w2' c2' (fun x x0 x1 => (t2 x x0 x1).1) (fun x x0 x1 => (t2 x x0 x1).2)
    have c49 : CWo 49 W τ2 := by
      have e : ∀ a, a = 49 ∨ a = 50 ∨ a = 51 → ∀ m, SRc q a m = false := fun a ha m => by
        rcases ha with rfl | rfl | rfl <;> rcases hq with rfl | rfl <;> rfl
      exact ⟨(F02.2 _ _ (e 49 (by simp) _)).trans c.1, fun x x0 x1 => ⟨(F02.2 _ _ (e 50 (by simp) _)).trans (c.2 x x0 x1).1, (F02.2 _ _ (e 51 (by simp) _)).trans (c.2 x x0 x1).2⟩⟩
    obtain ⟨b, l1, l2⟩ := alwaysLawful_sp (d := d) c49 ok w1 hr (by omega) ui uj q1 q2 q3 q4
    have pg := PG_iff (n := n) (Wd := W) (ev := decide (what = 1)) (i := i) j1
    have step : ∀ (v : Bool) (τ3 : Sg), Fr (SRc q) σ τ3 → (v = true ↔ PG n W (decide (what = 1)) ((i * fac n.toNat + j : Nat) : Int) = true) → (∀ x, 0 ≤ x → x < n → τ3.1 (q + 1) x.toNat = zI (uRow n.toNat i x)) → ∃ τ' v', f_N_rulesForWord_53 (d + 4) (zI n) (zI what) q (zI ((fac n.toNat : Nat) : Int)) (if v = true then zI (cnt (PG n W (decide (what = 1))) (i * fac n.toNat + j) + 1) else zI (cnt (PG n W (decide (what = 1))) (i * fac n.toNat + j))) (zI (i : Int)) (zI ((j : Int) + 1)) τ3 = f_N_rulesForWord_23 (d + 4) (zI n) (zI what) q (zI ((fac n.toNat : Nat) : Int)) (zI (cnt (PG n W (decide (what = 1))) ((i + 1) * fac n.toNat))) (zI ((i + 1 : Nat) : Int)) v' τ' ∧ Fr (SRc q) σ τ' := by
      intro v τ3 F3 hv hw3
      have := ih (j + 1) τ3 (by omega) F3 hw3
      rw [← Nat.add_assoc, cnt_s] at this
      cases v with
      | true =>
        rw [if_pos (hv.mp rfl)] at this
        rw [if_pos rfl]; exact this
      | false =>
        rw [if_neg (fun z => by have := hv.mpr z; cases this), Int.add_zero] at this
        rw [if_neg Bool.false_ne_true]; exact this
    have head : f_N_rulesForWord_53 (d + 4) (zI n) (zI what) q (zI ((fac n.toNat : Nat) : Int)) (zI (cnt (PG n W (decide (what = 1))) (i * fac n.toNat + j))) (zI (i : Int)) (zI (j : Int)) τ = if bz b = zI 0 then f_N_rulesForWord_53 (d + 4) (zI n) (zI what) q (zI ((fac n.toNat : Nat) : Int)) (zI (cnt (PG n W (decide (what = 1))) (i * fac n.toNat + j))) (zI (i : Int)) (zI ((j : Int) + 1)) τ2 else if zI what = zI 0 then f_N_rulesForWord_53 (d + 4) (zI n) (zI what) q (zI ((fac n.toNat : Nat) : Int)) (zI (cnt (PG n W (decide (what = 1))) (i * fac n.toNat + j) + 1)) (zI (i : Int)) (zI ((j : Int) + 1)) τ2 else cI (f_N_isEvenAndOneSide (d + 4) q τ2) fun v7 σ6 => if v7 = zI 0 then f_N_rulesForWord_53 (d + 4) (zI n) (zI what) q (zI ((fac n.toNat : Nat) : Int)) (zI (cnt (PG n W (decide (what = 1))) (i * fac n.toNat + j))) (zI (i : Int)) (zI ((j : Int) + 1)) σ6 else f_N_rulesForWord_53 (d + 4) (zI n) (zI what) q (zI ((fac n.toNat : Nat) : Int)) (zI (cnt (PG n W (decide (what = 1))) (i * fac n.toNat + j) + 1)) (zI (i : Int)) (zI ((j : Int) + 1)) σ6 := by
      rw [f_N_rulesForWord_53_eq, if_pos (by rw [zI_le (by omega) (by omega)]; omega), gfS_of hq.s0, ofs_6_3, a1, cV_rV, gdK_of hq.s0, t1, cV_rV, zI_0, l1, cI_rI, show (1 : Int32) = zI 1 from zI_lit 1, zI_add, zI_add]
    rw [head]
    cases b with
    | false =>
      rw [bz_ff, if_pos rfl]
      exact step false τ2 F02 ⟨fun z => (by cases z), fun z => by have := l2.mpr (pg.mp z).2.1; cases this⟩ w2'
    | true =>
      have al := l2.mp rfl
      rw [bz_tt, if_neg (by decide)]
      rcases h01 with h0 | h1
      · subst h0
        rw [if_pos rfl]
        exact step true τ2 F02 ⟨fun _ => pg.mpr ⟨hne, al, fun z => by cases z⟩, fun _ => rfl⟩ w2'
      · subst h1
        obtain ⟨τ3, b', e1, F3, e2⟩ := evenN_sp (σ := τ2) (d := d) hr n2 q1 q3
        have F03 : Fr (SRc q) σ τ3 := F02.tr (F3.mono fun b m e => by simp only [SRc, Bool.or_eq_false_iff] at e; exact e.2)
        have w3' : ∀ x, 0 ≤ x → x < n → τ3.1 (q + 1) x.toNat = zI (uRow n.toNat i x) := fun x x0 x1 => (F3.2 _ _ (by rcases hq with rfl | rfl <;> rfl)).trans (w2' x x0 x1)
        rw [if_neg (by decide), e1, cI_rI]
        cases b' with
        | false =>
          rw [bz_ff, if_pos rfl]
          exact step false τ3 F03 ⟨fun z => (by cases z), fun z => by have := e2.mpr ((pg.mp z).2.2 rfl); cases this⟩ w3'
        | true =>
          rw [bz_tt, if_neg (by decide)]
          exact step true τ3 F03 ⟨fun _ => pg.mpr ⟨hne, al, fun _ => e2.mp rfl⟩, fun _ => rfl⟩ w3'
theorem rules_sp {σ : Sg} {q d : Nat} (hq : isR q) (eq : σ.2.2 4 2 = q) {n : Int} (n2 : 2 ≤ n) (n5 : n ≤ 5) {W : WS} (c : CWo 49 W σ) (ok : WOk W) (w1 : 1 ≤ W.size) {what : Int} (h01 : what = 0 ∨ what = 1) : ∃ σ', f_N_rulesForWord (d + 5) (zI n) (zI what) σ = rI (zI (cnt (PG n W (decide (what = 1))) (fac n.toNat * fac n.toNat))) σ' ∧ Fr (fun a k => (a == q && k == 0) || SRc q a k) σ σ' := by
  have fb := fac_bd n.toNat (by omega)
  have hS0 : ∀ k, SRc q q k = false := fun k => by rcases hq with rfl | rfl <;> rfl
  have c' : CWo 49 W (sI σ q 0 (zI n)) := by
    have e : ∀ a, a = 49 ∨ a = 50 ∨ a = 51 → a ≠ q := fun a ha => by rcases ha with rfl | rfl | rfl <;> rcases hq with rfl | rfl <;> decide
    exact ⟨(sI_row _ _ _ _ _ (e 49 (by simp))).trans c.1, fun x x0 x1 => ⟨(sI_row _ _ _ _ _ (e 50 (by simp))).trans (c.2 x x0 x1).1, (sI_row _ _ _ _ _ (e 51 (by simp))).trans (c.2 x x0 x1).2⟩⟩
  generalize hσ : sI σ q 0 (zI n) = σ1 at c'
  have eq0 : σ1.1 q 0 = zI n := by rw [← hσ, sI_same]
  have F1 : Fr (fun a k => (a == q && k == 0) || SRc q a k) σ σ1 := hσ ▸ (Fr.rf _ σ).sI _ (by simp)
  have outer : ∀ (k i : Nat) (v : Value) (τ : Sg), i + k = fac n.toNat → Fr (SRc q) σ1 τ → ∃ τ', f_N_rulesForWord_23 (d + 4) (zI n) (zI what) q (zI ((fac n.toNat : Nat) : Int)) (zI (cnt (PG n W (decide (what = 1))) (i * fac n.toNat))) (zI (i : Int)) v τ = rI (zI (cnt (PG n W (decide (what = 1))) (fac n.toNat * fac n.toNat))) τ' ∧ Fr (SRc q) σ1 τ' := by
    intro k
    induction k with
    | zero =>
      intro i v τ hi F
      have : i = fac n.toNat := by omega
      subst this
      refine ⟨τ, ?_, F⟩
      rw [f_N_rulesForWord_23_eq, if_neg Int32.lt_irrefl]
    | succ k ih =>
      intro i v τ hi F
      have i1 : i < fac n.toNat := by omega
      obtain ⟨ui, li, -⟩ := uRow_ok (n := n.toNat) (by omega) (by omega) i1
      rw [show ((n.toNat : Nat) : Int) = n by omega] at ui
      obtain ⟨τ1, a1, G1, a2⟩ := unpack_sp (σ := τ) (d := d + 2) hq.s1 n2 (by omega) (num := i) (by omega) ui li
      have F01 : Fr (SRc q) σ1 τ1 := F.tr (G1.mono fun b m e => by simp only [SRc, Bool.or_eq_false_iff] at e; exact e.1.1.1.1)
      obtain ⟨b, s1, s2⟩ := someWeds_sp (σ := τ1) (d := d + 3) hq (by omega) (by omega) ((F01.2 _ _ (hS0 0)).trans eq0) ui a2
      rw [f_N_rulesForWord_23_eq, if_pos (by rw [zI_le (by omega) (by omega)]; omega), gfS_of hq.s0, ofs_6_1, a1, cV_rV, gdK_of hq.s0, s1, cI_rI, zI_0, show (1 : Int32) = zI 1 from zI_lit 1, zI_add]
      cases b with
      | true =>
        rw [bz_tt, if_neg (by decide)]
        have ne : ¬ ∀ x, 0 ≤ x → x < n → uRow n.toNat i x ≠ x := fun z => by have := s2.mpr z; cases this
        have := ih (i + 1) v τ1 (by omega) F01
        rw [Nat.succ_mul, cnt_gap _ fun t t0 t1 => by
          cases z : PG n W (decide (what = 1)) (t : Int) with
          | false => rfl
          | true =>
            rw [show t = i * fac n.toNat + (t - i * fac n.toNat) by omega] at z
            exact absurd ((PG_iff (by omega)).mp z).1 ne] at this
        exact this
      | false =>
        rw [bz_ff, if_pos rfl]
        obtain ⟨τ2, v', e1, F2⟩ := rules53_sp (d := d) hq n2 n5 eq0 c' ok w1 h01 i1 (s2.mp rfl) (fac n.toNat) 0 τ1 (by omega) F01 a2
        obtain ⟨τ3, e2, F3⟩ := ih (i + 1) v' τ2 (by omega) F2
        exact ⟨τ3, e1.trans e2, F3⟩
  obtain ⟨τ', a1, a2⟩ := outer (fac n.toNat) 0 .null σ1 (by omega) (Fr.rf _ _)
  refine ⟨τ', ?_, F1.tr (a2.mono fun a k e => by simp only [Bool.or_eq_false_iff] at e; exact e.2)⟩
  rw [f_N_rulesForWord_eq, eq, pfI_of hq.s0, hσ, bnd_zI (by omega) (by omega) (by omega), ix_zI (by omega) (by omega), FC_fac _ (by omega), zI_0]
  rw [Nat.zero_mul] at a1
  exact a1
