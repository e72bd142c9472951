/-! a way in three bits a name -/
theorem gb_shr (s : Int32) {k j : Int} (k0 : 0 ≤ k) (k1 : k < 32) (j0 : 0 ≤ j) (jk : j + k < 32) : gb (s >>> (zI k &&& zI 31)) j = gb s (j + k) := by
  unfold gb
  rw [Int32.toBitVec_shiftRight, BitVec.sshiftRight_eq', and31' k0 k1, BitVec.getLsbD_sshiftRight]
  rw [show (j + k).toNat = k.toNat + j.toNat by omega]
  have : ¬ 32 ≤ j.toNat := by omega
  have h2 : k.toNat + j.toNat < 32 := by omega
  simp [this, h2]
theorem gb_shl (s : Int32) {k y : Int} (k0 : 0 ≤ k) (k1 : k < 32) (y0 : 0 ≤ y) (y1 : y < 32) : gb (s <<< (zI k &&& zI 31)) y = (decide (k ≤ y) && gb s (y - k)) := by
  unfold gb
  rw [Int32.toBitVec_shiftLeft, BitVec.getLsbD_shiftLeft', and31' k0 k1]
  by_cases q : k ≤ y
  · have : ¬ y.toNat < k.toNat := by omega
    have h2 : y.toNat < 32 := by omega
    rw [show (y - k).toNat = y.toNat - k.toNat by omega]
    simp [this, h2, q]
  · have : y.toNat < k.toNat := by omega
    simp [this, q]
theorem gb8 : ∀ v : Fin 8, ∀ j : Fin 32, 3 ≤ j.val → gb (zI (v.val : Int)) (j.val : Int) = false := by decide +kernel
theorem gb_sm {v j : Int} (v0 : 0 ≤ v) (v1 : v < 8) (j0 : 3 ≤ j) (j1 : j < 32) : gb (zI v) j = false := by
  have := gb8 ⟨v.toNat, by omega⟩ ⟨j.toNat, by omega⟩ (by show 3 ≤ j.toNat; omega)
  rwa [toNat_c v0, toNat_c (show 0 ≤ j by omega)] at this
theorem gb_seven : ∀ j : Fin 32, gb (zI 7) (j.val : Int) = decide (j.val < 3) := by decide +kernel
def Cd (n : Int) (g : Int → Int) (s : Int32) : Prop := ∀ y, 0 ≤ y → y < 32 → gb s y = (decide (y < 3 * n) && gb (zI (g (y / 3))) (y % 3))
theorem Cd.zero (g : Int → Int) : Cd 0 g (zI 0) := fun y y0 y1 => by rw [gb_0, decide_eq_false (by omega)]; rfl
theorem Cd.step {m : Int} {g : Int → Int} {s : Int32} (h : Cd m g s) (m0 : 0 ≤ m) (m6 : m < 6) (g0 : 0 ≤ g m) (g8 : g m < 8) : Cd (m + 1) g (s ||| (zI (g m) <<< (zI (3 * m) &&& zI 31))) := by
  intro y y0 y1
  rw [gb_or, h y y0 y1, gb_shl _ (by omega) (by omega) y0 y1]
  by_cases q : y < 3 * m
  · rw [decide_eq_true q, decide_eq_false (show ¬ 3 * m ≤ y by omega), decide_eq_true (show y < 3 * (m + 1) by omega), Bool.false_and, Bool.or_false]
  · rw [decide_eq_false q, decide_eq_true (show 3 * m ≤ y by omega), Bool.false_and, Bool.false_or, Bool.true_and]
    by_cases z : y < 3 * (m + 1)
    · rw [decide_eq_true z, Bool.true_and, show y / 3 = m by omega, show y % 3 = y - 3 * m by omega]
    · rw [decide_eq_false z, Bool.false_and, gb_sm g0 g8 (by omega) (by omega)]
theorem Cd.congr {n : Int} {g h : Int → Int} {s : Int32} (c : Cd n g s) (e : EqN n g h) : Cd n h s := fun y y0 y1 => by
  rw [c y y0 y1]
  by_cases q : y < 3 * n
  · rw [e (y / 3) (by omega) (by omega)]
  · rw [decide_eq_false q, Bool.false_and, Bool.false_and]
theorem Cd.eq {n : Int} {g h : Int → Int} {s t : Int32} (n6 : n ≤ 6) (c : Cd n g s) (c' : Cd n h t) (hg : onN n g) (hh : onN n h) : s = t ↔ EqN n g h := by
  constructor
  · rintro rfl x x0 x1
    have a := hg.1 x x0 x1; have b := hh.1 x x0 x1
    have : zI (g x) = zI (h x) := gb_ext fun j j0 j1 => by
      by_cases q : j < 3
      · have e := (c (3 * x + j) (by omega) (by omega)).symm.trans (c' (3 * x + j) (by omega) (by omega))
        rw [decide_eq_true (show 3 * x + j < 3 * n by omega), Bool.true_and, Bool.true_and, show (3 * x + j) / 3 = x by omega, show (3 * x + j) % 3 = j by omega] at e
        exact e
      · rw [gb_sm a.1 (by omega) (by omega) j1, gb_sm b.1 (by omega) (by omega) j1]
    rw [zI_eq (by omega) (by omega)] at this
    exact this
  · intro e
    have c2 := c.congr e
    exact gb_ext fun j j0 j1 => (c2 j j0 j1).trans (c' j j0 j1).symm
theorem nameIn_sp {σ : Sg} {d : Nat} {n x : Int} {g : Int → Int} {s : Int32} (c : Cd n g s) (n6 : n ≤ 6) (x0 : 0 ≤ x) (x1 : x < n) (g0 : 0 ≤ g x) (g8 : g x < 8) : f_M_nameIn (d + 1) s (zI x) σ = rI (zI (g x)) σ := by
  rw [f_M_nameIn_eq, show (3 : Int32) = zI 3 from zI_lit 3, show (7 : Int32) = zI 7 from zI_lit 7, show (31 : Int32) = zI 31 from zI_lit 31, zI_mul]
  refine congrArg (rI · σ) (gb_ext fun j j0 j1 => ?_)
  have e7 := gb_seven ⟨j.toNat, by omega⟩
  rw [toNat_c j0] at e7
  rw [gb_and, e7]
  by_cases q : j < 3
  · rw [decide_eq_true (show j.toNat < 3 by omega), Bool.and_true, gb_shr s (by omega) (by omega) j0 (by omega), c _ (by omega) (by omega), decide_eq_true (by omega), Bool.true_and, show (j + 3 * x) / 3 = x by omega, show (j + 3 * x) % 3 = j by omega]
  · rw [decide_eq_false (show ¬ j.toNat < 3 by omega), Bool.and_false, gb_sm g0 g8 (by omega) j1]
theorem plainWay_sp {σ : Sg} {d : Nat} {n : Int} (n0 : 0 ≤ n) (n6 : n ≤ 6) (e0 : σ.1 102 5 = zI n) : ∃ s, f_M_plainWay (d + 1) σ = rI s σ ∧ Cd n (fun x => x) s := by
  have main : ∀ (k : Nat) (x : Int) (s : Int32), x + k = n → 0 ≤ x → Cd x (fun x => x) s → ∃ u, f_M_plainWay_4 d s (zI x) σ = rI u σ ∧ Cd n (fun x => x) u := by
    intro k
    induction k with
    | zero =>
      intro x s hx x0 h
      have : x = n := by omega
      subst this
      exact ⟨s, by rw [f_M_plainWay_4_eq, e0, if_neg Int32.lt_irrefl], h⟩
    | succ k ih =>
      intro x s hx x0 h
      obtain ⟨s', a1, a2⟩ := ih (x + 1) _ (by omega) (by omega) (h.step x0 (by omega) x0 (by omega))
      refine ⟨s', ?_, a2⟩
      rw [f_M_plainWay_4_eq, e0, if_pos (by rw [zI_le (by omega) (by omega)]; omega), show (3 : Int32) = zI 3 from zI_lit 3, show (31 : Int32) = zI 31 from zI_lit 31, show (1 : Int32) = zI 1 from zI_lit 1, zI_mul, zI_add]
      exact a1
  rw [f_M_plainWay_eq, zI_0]
  exact main n.toNat 0 _ (by omega) (by decide) (Cd.zero _)
theorem changedBy_sp {σ : Sg} {d a : Nat} (ha : SH a = (14, 6)) {n : Int} (n0 : 0 ≤ n) (n6 : n ≤ 6) (e0 : σ.1 102 5 = zI n) {g h : Int → Int} {s : Int32} (c : Cd n g s) (hg : onN n g) (hh : onN n h) (eh : ∀ x, 0 ≤ x → x < n → σ.1 a x.toNat = zI (h x)) : ∃ t, f_M_changedBy (d + 2) s a σ = rI t σ ∧ Cd n (fun x => h (g x)) t := by
  have main : ∀ (k : Nat) (x : Int) (t : Int32), x + k = n → 0 ≤ x → Cd x (fun x => h (g x)) t → ∃ u, f_M_changedBy_5 (d + 1) s a t (zI x) σ = rI u σ ∧ Cd n (fun x => h (g x)) u := by
    intro k
    induction k with
    | zero =>
      intro x t hx x0 h'
      have : x = n := by omega
      subst this
      exact ⟨t, by rw [f_M_changedBy_5_eq, e0, if_neg Int32.lt_irrefl], h'⟩
    | succ k ih =>
      intro x t hx x0 h'
      have gb := hg.1 x x0 (by omega)
      have hb := hh.1 _ gb.1 gb.2
      obtain ⟨t', a1, a2⟩ := ih (x + 1) _ (by omega) (by omega) (h'.step x0 (by omega) hb.1 (by omega))
      refine ⟨t', ?_, a2⟩
      rw [f_M_changedBy_5_eq, e0, if_pos (by rw [zI_le (by omega) (by omega)]; omega), nameIn_sp c n6 x0 (by omega) gb.1 (by omega), cI_rI, ldi_of ha gb.1 (by omega) (by omega), eh _ gb.1 gb.2, show (3 : Int32) = zI 3 from zI_lit 3, show (31 : Int32) = zI 31 from zI_lit 31, show (1 : Int32) = zI 1 from zI_lit 1, zI_mul, zI_add]
      exact a1
  rw [f_M_changedBy_eq, zI_0]
  exact main n.toNat 0 _ (by omega) (by decide) (Cd.zero _)
def SWa (a k : Nat) : Bool := a == 131 || (a == 102 && k == 46)
def WB (n : Int) (S : QSt) (τ : Sg) : Prop := τ.1 102 46 = zI (S.2 : Int) ∧ ∀ j : Nat, j < S.2 → Cd n (S.1 j) (τ.1 131 j)
theorem addsWay_sp {τ : Sg} {d : Nat} {n : Int} (n2 : 2 ≤ n) (n6 : n ≤ 6) {S : QSt} (hS : QOk n S) (hb : WB n S τ) {g : Int → Int} {s : Int32} (c : Cd n g s) (hg : onN n g) : ∃ τ', f_M_addsWay (d + 1) s τ = rV τ' ∧ Fr SWa τ τ' ∧ WB n (addq n S g) τ' := by
  have fb := fac_bd n.toNat (by omega)
  have sle := hS.le n2 n6
  obtain ⟨b1, b2⟩ := hb
  have main : ∀ (k j : Nat), j + k = S.2 → (∀ i, i < j → ¬ EqN n (S.1 i) g) → ∃ τ', f_M_addsWay_2 d s (zI (j : Int)) τ = rV τ' ∧ Fr SWa τ τ' ∧ WB n (addq n S g) τ' := by
    intro k
    induction k with
    | zero =>
      intro j hj hn
      have : j = S.2 := by omega
      subst this
      have ne : ¬ ∃ j, j < S.2 ∧ EqN n (S.1 j) g := fun ⟨i, i1, i2⟩ => hn i i1 i2
      have le' := (addq_ok hS hg).le n2 n6
      rw [addq_new ne] at le' ⊢
      have le' : S.2 + 1 ≤ fac n.toNat := le'
      refine ⟨sI (sI τ 131 S.2 s) 102 46 (zI ((S.2 : Int) + 1)), ?_, ((Fr.rf _ τ).sI _ rfl).sI _ rfl, ?_, fun i hi => ?_⟩
      · rw [f_M_addsWay_2_eq, b1, if_neg Int32.lt_irrefl, bnd_zI (by omega) (by omega) (by omega), ix_zI (by omega) (by omega), Int.toNat_natCast]
        show rV (sI (sI τ 131 S.2 s) 102 46 (τ.1 102 46 + 1)) = _
        rw [b1, show (1 : Int32) = zI 1 from zI_lit 1, zI_add]
      · rw [sI_same]; rfl
      · have hi : i < S.2 + 1 := hi
        rw [sI_row _ _ _ _ _ (by decide)]
        show Cd n (if i = S.2 then g else S.1 i) _
        by_cases z : i = S.2
        · subst z; rw [sI_same, if_pos rfl]; exact c
        · rw [sI_slot _ _ _ _ z, if_neg z]; exact b2 i (by omega)
    | succ k ih =>
      intro j hj hn
      have e := Cd.eq n6 (b2 j (by omega)) c (hS.2.1 j (by omega)) hg
      by_cases z : EqN n (S.1 j) g
      · refine ⟨τ, ?_, Fr.rf _ _, ?_⟩
        · rw [f_M_addsWay_2_eq, b1, if_pos (by rw [zI_le (by omega) (by omega)]; omega), bnd_zI (by omega) (by omega) (by omega), ix_zI (by omega) (by omega), Int.toNat_natCast, if_pos (e.mpr z)]
        · rw [addq_old ⟨j, by omega, z⟩]; exact ⟨b1, b2⟩
      · obtain ⟨τ', a1, a2⟩ := ih (j + 1) (by omega) fun i hi => by
          by_cases q : i = j
          · rw [q]; exact z
          · exact hn i (by omega)
        refine ⟨τ', ?_, a2⟩
        rw [f_M_addsWay_2_eq, b1, if_pos (by rw [zI_le (by omega) (by omega)]; omega), bnd_zI (by omega) (by omega) (by omega), ix_zI (by omega) (by omega), Int.toNat_natCast, if_neg (fun q => z (e.mp q)), show (1 : Int32) = zI 1 from zI_lit 1, zI_add]
        exact a1
  rw [f_M_addsWay_eq, zI_0]
  exact main S.2 0 (by omega) fun i hi => by omega
theorem WB.fr {S : Nat → Nat → Bool} {σ σ' : Sg} {n : Int} {Q : QSt} (h : WB n Q σ) (F : Fr S σ σ') (h1 : S 102 46 = false) (h2 : ∀ k, S 131 k = false) : WB n Q σ' := by
  unfold WB at h ⊢
  rw [F.2 _ _ h1]
  refine ⟨h.1, fun j hj => ?_⟩
  rw [F.2 _ _ (h2 j)]; exact h.2 j hj
theorem laysWays_sp {σ : Sg} {d : Nat} {n : Int} (n2 : 2 ≤ n) (n6 : n ≤ 6) (e0 : σ.1 102 5 = zI n) {W C : Int → Int} (hW : onN n W) (hC : onN n C) (eW : ∀ x, 0 ≤ x → x < n → σ.1 106 x.toNat = zI (W x)) (eC : ∀ x, 0 ≤ x → x < n → σ.1 107 x.toNat = zI (C x)) : ∃ (σ' : Sg) (K : Nat), f_M_laysWays (d + 3) σ = rV σ' ∧ Fr SWa σ σ' ∧ WB n (bst n W C K) σ' ∧ (∀ j, j < K → j < (bst n W C j).2) ∧ (bst n W C K).2 ≤ K := by
  have fb := fac_bd n.toNat (by omega)
  have loop : ∀ (b k : Nat) (τ : Sg), k + b = 720 → Fr SWa σ τ → WB n (bst n W C k) τ → (∀ j, j < k → j < (bst n W C j).2) → ∃ (σ' : Sg) (K : Nat), f_M_laysWays_15 (d + 2) (zI (k : Int)) τ = rV σ' ∧ Fr SWa σ σ' ∧ WB n (bst n W C K) σ' ∧ (∀ j, j < K → j < (bst n W C j).2) ∧ (bst n W C K).2 ≤ K := by
    intro b
    induction b with
    | zero =>
      intro k τ hk F hb hj
      have le := (bst_ok hW hC k hj).le n2 n6
      refine ⟨τ, k, ?_, F, hb, hj, by omega⟩
      rw [f_M_laysWays_15_eq, hb.1, if_neg (by rw [zI_le (by omega) (by omega)]; omega)]
    | succ b ih =>
      intro k τ hk F hb hj
      have ok := bst_ok hW hC k hj
      have le := ok.le n2 n6
      by_cases z : k < (bst n W C k).2
      · have hk' := ok.2.1 k z
        obtain ⟨t1, c1, c2⟩ := changedBy_sp (σ := τ) (d := d) (a := 106) rfl (by omega) n6 ((F.2 _ _ rfl).trans e0) (hb.2 k z) hk' hW (fun x x0 x1 => (F.2 _ _ rfl).trans (eW x x0 x1))
        obtain ⟨τ1, a1, F1, w1⟩ := addsWay_sp (d := d + 1) n2 n6 ok hb c2 (onN_comp hW hk')
        have F01 := F.tr F1
        have ok1 := addq_ok ok (onN_comp hW hk')
        have pr := addq_pre (n := n) (S := bst n W C k) (g := fun x => W ((bst n W C k).1 k x))
        have cd1 := w1.2 k (by omega)
        rw [pr.2 k z] at cd1
        obtain ⟨t2, c3, c4⟩ := changedBy_sp (σ := τ1) (d := d) (a := 107) rfl (by omega) n6 ((F01.2 _ _ rfl).trans e0) cd1 hk' hC (fun x x0 x1 => (F01.2 _ _ rfl).trans (eC x x0 x1))
        obtain ⟨τ2, a3, F2, w2⟩ := addsWay_sp (d := d + 1) n2 n6 ok1 w1 c4 (onN_comp hC hk')
        obtain ⟨σ', K, y1, y2⟩ := ih (k + 1) τ2 (by omega) (F01.tr F2) w2 fun j hj' => by
          by_cases q : j = k
          · subst q; exact z
          · exact hj j (by omega)
        refine ⟨σ', K, ?_, y2⟩
        rw [f_M_laysWays_15_eq, hb.1, if_pos (by rw [zI_le (by omega) (by omega)]; omega), bnd_zI (by omega) (by omega) (by omega), ix_zI (by omega) (by omega), Int.toNat_natCast, c1, cI_rI, a1, cV_rV, bnd_zI (by omega) (by omega) (by omega), c3, cI_rI, a3, cV_rV, show (1 : Int32) = zI 1 from zI_lit 1, zI_add]
        exact y1
      · refine ⟨τ, k, ?_, F, hb, hj, by omega⟩
        rw [f_M_laysWays_15_eq, hb.1, if_neg (by rw [zI_le (by omega) (by omega)]; omega)]
  obtain ⟨s, p1, p2⟩ := plainWay_sp (σ := sI σ 102 46 (zI 0)) (d := d + 1) (by omega : 0 ≤ n) n6 ((sI_slot _ _ _ _ (by decide)).trans e0)
  obtain ⟨σ', K, y1, y2⟩ := loop 720 0 (sI (sI (sI σ 102 46 (zI 0)) 131 0 s) 102 46 (zI 1)) (by decide) ((((Fr.rf _ σ).sI _ rfl).sI _ rfl).sI _ rfl) ⟨sI_same _ _ _ _, fun j hj => by
    have hj : j < 1 := hj
    have : j = 0 := by omega
    subst this
    rw [sI_row _ _ _ _ _ (by decide), sI_same]; exact p2⟩ (fun j hj => by omega)
  refine ⟨σ', K, ?_, y2⟩
  rw [f_M_laysWays_eq, zI_0]
  show (cI (f_M_plainWay (d + 2) (sI σ 102 46 (zI 0))) fun v3 σ2 => cV (f_M_addsWay (d + 2) v3 σ2) fun σ4 => f_M_laysWays_15 (d + 2) (zI 0) σ4) = _
  rw [p1, cI_rI, f_M_addsWay_eq, f_M_addsWay_2_eq, zI_0, sI_same, if_neg (by decide)]
  show (cV (rV (sI (sI (sI σ 102 46 (zI 0)) 131 0 s) 102 46 ((sI (sI σ 102 46 (zI 0)) 131 0 s).1 102 46 + 1))) fun σ4 => f_M_laysWays_15 (d + 2) (zI 0) σ4) = _
  rw [cV_rV, sI_row _ _ _ _ _ (by decide), sI_same, show (1 : Int32) = zI 1 from zI_lit 1, zI_add]
  exact y1
