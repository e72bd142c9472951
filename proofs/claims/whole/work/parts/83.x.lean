/-! all rules, in the reference -/
theorem weddsOut_sp {τ : Sg} {d : Nat} {n : Int} (n0 : 0 ≤ n) (n6 : n ≤ 6) (e0 : τ.1 102 5 = zI n) {w : Int → Int} (hw : onN n w) (eW : ∀ x, 0 ≤ x → x < n → τ.1 106 x.toNat = zI (w x)) : ∃ b, f_M_weddsOut (d + 1) τ = rI (bz b) τ ∧ (b = true ↔ ∀ x, 0 ≤ x → x < n → w x ≠ x) := by
  have main : ∀ (k : Nat) (i : Int), i + k = n → 0 ≤ i → (∀ x, 0 ≤ x → x < i → w x ≠ x) → ∃ b, f_M_weddsOut_2 d (zI i) τ = rI (bz b) τ ∧ (b = true ↔ ∀ x, 0 ≤ x → x < n → w x ≠ x) := by
    intro k
    induction k with
    | zero =>
      intro i hi i0 h
      have : i = n := by omega
      subst this
      refine ⟨true, ?_, fun _ => h, fun _ => rfl⟩
      rw [f_M_weddsOut_2_eq, e0, if_neg Int32.lt_irrefl, show (1 : Int32) = zI 1 from zI_lit 1, rZ_z1]; rfl
    | succ k ih =>
      intro i hi i0 h
      have wb := hw.1 i i0 (by omega)
      rw [f_M_weddsOut_2_eq, e0, if_pos (by rw [zI_le (by omega) (by omega)]; omega), bnd_zI i0 (by omega) (by omega), ix_zI i0 (by omega), eW i i0 (by omega), show (1 : Int32) = zI 1 from zI_lit 1, zI_add]
      by_cases z : w i = i
      · rw [if_pos (congrArg zI z), zI_0, rZ_z0]
        exact ⟨false, rfl, fun q => (by cases q), fun q => absurd z (q i i0 (by omega))⟩
      · rw [if_neg (by rw [zI_eq (by omega) (by omega)]; exact z)]
        exact ih (i + 1) (by omega) (by omega) fun x x0 x1 => by
          by_cases q : x = i
          · rw [q]; exact z
          · exact h x x0 (by omega)
  rw [f_M_weddsOut_eq, zI_0]
  exact main n.toNat 0 (by omega) (by decide) fun x x0 x1 => by omega
theorem mr4Of {τ : Sg} {n : Int} (n0 : 0 ≤ n) (n6 : n ≤ 6) (e0 : τ.1 102 5 = zI n) {w c : Int → Int} (hw : onN n w) (hc : onN n c) (eW : ∀ x, 0 ≤ x → x < n → τ.1 106 x.toNat = zI (w x)) (eC : ∀ x, 0 ≤ x → x < n → τ.1 107 x.toNat = zI (c x)) : MR4 τ n w (ivF w n.toNat) c (ivF c n.toNat) := by
  refine ⟨⟨rd_of (x := 5) e0 (by omega) (by omega), n0, n6, fun x x0 x1 => ?_⟩, fun x x0 x1 => ?_⟩
  · have a := hw.1 x x0 x1; have b := ivF_ok hw x0 x1; have d := hc.1 x x0 x1
    exact ⟨rd_of (eW x x0 x1) (by omega) (by omega), rd_of (eC x x0 x1) (by omega) (by omega), a.1, a.2, b.1, b.2.1, b.2.2.2, b.2.2.1, d.1, d.2⟩
  · have b := ivF_ok hc x0 x1
    exact ⟨b.1, b.2.1, b.2.2.1, b.2.2.2⟩
theorem full_gb : ∀ y : Fin 32, (gb (zI 1 <<< (zI 2 &&& zI 31) - zI 1) (y.val : Int) = decide (y.val < 2)) ∧ (gb (zI 1 <<< (zI 3 &&& zI 31) - zI 1) (y.val : Int) = decide (y.val < 3)) ∧ (gb (zI 1 <<< (zI 4 &&& zI 31) - zI 1) (y.val : Int) = decide (y.val < 4)) ∧ (gb (zI 1 <<< (zI 5 &&& zI 31) - zI 1) (y.val : Int) = decide (y.val < 5)) := by decide +kernel
theorem full_at {n : Int} (n2 : 2 ≤ n) (n5 : n ≤ 5) {y : Int} (y0 : 0 ≤ y) (y1 : y < 32) : gb (zI 1 <<< (zI n &&& zI 31) - zI 1) y = decide (y < n) := by
  have h := full_gb ⟨y.toNat, by omega⟩
  rw [toNat_c y0] at h
  have e : ∀ m : Nat, decide (y.toNat < m) = decide (y < (m : Int)) := fun m => decide_eq_decide.mpr (by omega)
  rcases (show n = 2 ∨ n = 3 ∨ n = 4 ∨ n = 5 by omega) with q | q | q | q <;> subst q
  · rw [h.1]; exact e 2
  · rw [h.2.1]; exact e 3
  · rw [h.2.2.1]; exact e 4
  · rw [h.2.2.2]; exact e 5
theorem lawfulAll {τ : Sg} {d : Nat} {n : Int} (n2 : 2 ≤ n) (n5 : n ≤ 5) (e0 : τ.1 102 5 = zI n) {W : WS} (m : MWo W τ) (ok : WOk W) (w1 : 1 ≤ W.size) {w c : Int → Int} (hw : onN n w) (hc : onN n c) (eW : ∀ x, 0 ≤ x → x < n → τ.1 106 x.toNat = zI (w x)) (eC : ∀ x, 0 ≤ x → x < n → τ.1 107 x.toNat = zI (c x)) : ∃ u, f_M_lawful (d + 4) (zI 0) τ = rI u τ ∧ (u = zI 1 <<< (zI n &&& zI 31) - zI 1 ↔ AL n W w c) := by
  have nm := NmOk.iv (by omega) hw hc
  obtain ⟨u, a1, a2⟩ := lawfulM_sp (d := d) m ok w1 (mr4Of (by omega) (by omega) e0 hw hc eW eC) ⟨by omega, by omega⟩ e0 nm (Or.inl rfl) (f := fP n W w c) rfl
  refine ⟨u, a1, ?_⟩
  have lw : ∀ x, (lwF w (ivF w n.toNat) (fP n W w c) (W.st (W.size - 1) % 2) 0 x = true ↔ W.st (W.size - 1) % 2 ≠ 0 ∧ fP n W w c x = w x) := fun x => by
    unfold lwF spF
    rw [decide_eq_true_eq, if_pos rfl]
  constructor
  · intro e x x0 x1
    have := a2 x x0 (by omega)
    rw [e, full_at n2 n5 x0 (by omega), decide_eq_true x1, Bool.true_and] at this
    exact (lw x).mp this.symm
  · intro h
    refine gb_ext fun y y0 y1 => ?_
    rw [a2 y y0 y1, full_at n2 n5 y0 y1]
    by_cases z : y < n
    · rw [decide_eq_true z, (lw y).mpr (h y y0 z)]; rfl
    · rw [decide_eq_false z]; rfl
theorem uRow_0 {n : Nat} (n2 : 2 ≤ n) (n5 : n ≤ 5) {x : Int} (x0 : 0 ≤ x) (x1 : x < n) : uRow n 0 x = x := by
  have h : ∀ m : Nat, m = 2 ∨ m = 3 ∨ m = 4 ∨ m = 5 → allB (fun j => decide (uRow m 0 (j : Int) = (j : Int))) m = true := by
    rintro m (rfl | rfl | rfl | rfl) <;> decide +kernel
  have := of_decide_eq_true (allB_at _ (h n (by omega)) x.toNat (by omega))
  rwa [toNat_c x0] at this
def SRm (a k : Nat) : Bool := S6 106 a k || S6 107 a k || SWa a k
noncomputable def contR (d : Nat) (ev c : Int32) (τ : Sg) : Rs := cI (f_M_nextRow d 107 τ) fun v4 σ3 => if v4 = zI 0 then cI (f_M_nextRow d 106 σ3) fun v6 σ5 => if v6 = zI 0 then f_M_countsRules_34 d ev c (zI 0) σ5 else f_M_countsRules_34 d ev c (zI 1) σ5 else f_M_countsRules_34 d ev c (zI 1) σ3
theorem counts_sp {σ : Sg} {d : Nat} {n : Int} (n2 : 2 ≤ n) (n5 : n ≤ 5) (e0 : σ.1 102 5 = zI n) {W : WS} (m : MWo W σ) (ok : WOk W) (w1 : 1 ≤ W.size) {what : Int} (h01 : what = 0 ∨ what = 1) : ∀ (k i j : Nat) (τ : Sg), (i * fac n.toNat + j) + k = fac n.toNat * fac n.toNat → i < fac n.toNat → j < fac n.toNat → Fr SRm σ τ → (∀ x, 0 ≤ x → x < n → τ.1 106 x.toNat = zI (uRow n.toNat i x)) → (∀ x, 0 ≤ x → x < n → τ.1 107 x.toNat = zI (uRow n.toNat j x)) → ∃ τ', f_M_countsRules_34 (d + 4) (zI what) (zI (cnt (PG n W (decide (what = 1))) (i * fac n.toNat + j))) (zI 1) τ = rI (zI (cnt (PG n W (decide (what = 1))) (fac n.toNat * fac n.toNat))) τ' ∧ Fr SRm σ τ' := by
  have fb := fac_bd n.toNat (by omega)
  have nn : ((n.toNat : Nat) : Int) = n := by omega
  intro k
  induction k with
  | zero =>
    intro i j τ hk hi hj F hw hc
    exfalso
    have h1 : i * fac n.toNat + j < (i + 1) * fac n.toNat := by rw [Nat.succ_mul]; omega
    have h2 : (i + 1) * fac n.toNat ≤ fac n.toNat * fac n.toNat := Nat.mul_le_mul_right _ (by omega)
    omega
  | succ k ih =>
    intro i j τ hk hi hj F hw hc
    obtain ⟨ui, -, ui1, ui2, uic⟩ := uRow_ok (n := n.toNat) (by omega) (by omega) hi
    obtain ⟨uj, -, uj1, uj2, ujc⟩ := uRow_ok (n := n.toNat) (by omega) (by omega) hj
    rw [nn] at ui uj
    have pg := PG_iff (n := n) (Wd := W) (ev := decide (what = 1)) (i := i) hj
    have e0' : ∀ υ, Fr SRm σ υ → υ.1 102 5 = zI n := fun υ G => (G.2 _ _ rfl).trans e0
    -- go on to the next
    have goOn : ∀ (υ : Sg), Fr SRm σ υ → (∀ x, 0 ≤ x → x < n → υ.1 106 x.toNat = zI (uRow n.toNat i x)) → (∀ x, 0 ≤ x → x < n → υ.1 107 x.toNat = zI (uRow n.toNat j x)) → ∃ τ', contR (d + 4) (zI what) (zI (cnt (PG n W (decide (what = 1))) (i * fac n.toNat + j + 1))) υ = rI (zI (cnt (PG n W (decide (what = 1))) (fac n.toNat * fac n.toNat))) τ' ∧ Fr SRm σ τ' := by
      intro υ G hw' hc'
      obtain ⟨υ1, b1, G1, b2⟩ := nextRow_sp (τ := υ) (d := d + 2) (a := 107) rfl (by decide) (n := n.toNat) (by omega) (by omega) (by rw [nn]; exact e0' υ G) (f := uRow n.toNat j) (by rw [nn]; exact uj) (fun x x0 x1 => hc' x x0 (by omega)) ujc
      have G01 : Fr SRm σ υ1 := G.tr (G1.mono fun a m e => by simp only [SRm, Bool.or_eq_false_iff] at e; exact e.1.2)
      have hw1 : ∀ x, 0 ≤ x → x < n → υ1.1 106 x.toNat = zI (uRow n.toNat i x) := fun x x0 x1 => (G1.2 _ _ (by simp [S6])).trans (hw' x x0 x1)
      unfold contR
      rw [b1, cI_rI]
      by_cases z : j + 1 < fac n.toNat
      · obtain ⟨c1, c2⟩ := uj1 z
        rw [c1, bz_tt, if_neg (by decide)]
        exact ih i (j + 1) υ1 (by omega) hi z G01 hw1 fun x x0 x1 => by rw [b2 x x0 (by omega), c2 x x0 (by omega)]
      · have c1 := uj2 z
        rw [c1, bz_ff, if_pos rfl]
        have cid : ∀ x, 0 ≤ x → x < n → υ1.1 107 x.toNat = zI (uRow n.toNat 0 x) := fun x x0 x1 => by
          rw [b2 x x0 (by omega), uRow_0 (by omega) (by omega) x0 (by omega)]
          have : (nxF n.toNat (uRow n.toNat j)).1 = fun x => x := by
            unfold nxF at c1 ⊢
            by_cases q : fI (uRow n.toNat j) (n.toNat - 1) < 0
            · rw [if_pos q]
            · rw [if_neg q] at c1; cases c1
          rw [this]
        obtain ⟨υ2, d1, G2, d2⟩ := nextRow_sp (τ := υ1) (d := d + 2) (a := 106) rfl (by decide) (n := n.toNat) (by omega) (by omega) (by rw [nn]; exact e0' υ1 G01) (f := uRow n.toNat i) (by rw [nn]; exact ui) (fun x x0 x1 => hw1 x x0 (by omega)) uic
        have G02 : Fr SRm σ υ2 := G01.tr (G2.mono fun a m e => by simp only [SRm, Bool.or_eq_false_iff] at e; exact e.1.1)
        rw [d1, cI_rI]
        have jj : j + 1 = fac n.toNat := by omega
        by_cases y : i + 1 < fac n.toNat
        · obtain ⟨f1, f2⟩ := ui1 y
          rw [f1, bz_tt, if_neg (by decide)]
          have := ih (i + 1) 0 υ2 (by rw [Nat.succ_mul]; omega) y (by omega) G02 (fun x x0 x1 => by rw [d2 x x0 (by omega), f2 x x0 (by omega)]) (fun x x0 x1 => (G2.2 _ _ (by simp [S6])).trans (cid x x0 x1))
          rw [Nat.succ_mul] at this
          rw [Nat.add_assoc, jj]
          exact this
        · rw [ui2 y, bz_ff, if_pos rfl]
          refine ⟨υ2, ?_, G02⟩
          have ii : i + 1 = fac n.toNat := by omega
          rw [f_M_countsRules_34_eq, zI_0, if_pos rfl, Nat.add_assoc, jj, ← Nat.succ_mul, Nat.succ_eq_add_one, ii]
    have eq1 : (1 : Int32) = zI 1 := zI_lit 1
    have c34 : f_M_countsRules_34 (d + 4) (zI what) (zI (cnt (PG n W (decide (what = 1))) (i * fac n.toNat + j))) (zI 1) τ = cI (f_M_weddsOut (d + 4) τ) fun v2 σ1 => if v2 = zI 0 then contR (d + 4) (zI what) (zI (cnt (PG n W (decide (what = 1))) (i * fac n.toNat + j))) σ1 else cI (f_M_lawful (d + 4) (zI 0) σ1) fun v8 σ7 => if v8 = zI 1 <<< (σ7.1 102 5 &&& zI 31) - zI 1 then (if zI what = zI 0 then contR (d + 4) (zI what) (zI (cnt (PG n W (decide (what = 1))) (i * fac n.toNat + j) + 1)) σ7 else cI (f_M_isEvenAndOne (d + 4) σ7) fun v14 σ13 => if v14 = zI 0 then contR (d + 4) (zI what) (zI (cnt (PG n W (decide (what = 1))) (i * fac n.toNat + j))) σ13 else contR (d + 4) (zI what) (zI (cnt (PG n W (decide (what = 1))) (i * fac n.toNat + j) + 1)) σ13) else contR (d + 4) (zI what) (zI (cnt (PG n W (decide (what = 1))) (i * fac n.toNat + j))) σ7 := by
      rw [f_M_countsRules_34_eq, zI_0, if_neg (by decide), eq1, show (31 : Int32) = zI 31 from zI_lit 31, zI_add]
      rfl
    rw [c34]
    obtain ⟨b, s1, s2⟩ := weddsOut_sp (τ := τ) (d := d + 3) (by omega) (by omega) (e0' τ F) ui hw
    rw [s1, cI_rI]
    have stay : (¬ PG n W (decide (what = 1)) ((i * fac n.toNat + j : Nat) : Int) = true) → cnt (PG n W (decide (what = 1))) (i * fac n.toNat + j) = cnt (PG n W (decide (what = 1))) (i * fac n.toNat + j + 1) := fun z => by
      rw [cnt_s, if_neg z, Int.add_zero]
    have more : PG n W (decide (what = 1)) ((i * fac n.toNat + j : Nat) : Int) = true → cnt (PG n W (decide (what = 1))) (i * fac n.toNat + j) + 1 = cnt (PG n W (decide (what = 1))) (i * fac n.toNat + j + 1) := fun z => by
      rw [cnt_s, if_pos z]
    cases b with
    | false =>
      rw [bz_ff, if_pos rfl, stay (fun z => by have := s2.mpr (pg.mp z).1; cases this)]
      exact goOn τ F hw hc
    | true =>
      have ne := s2.mp rfl
      rw [bz_tt, if_neg (by decide)]
      have mo : MWo W τ := ⟨(F.2 _ _ rfl).trans m.1, fun x x0 x1 => ⟨(F.2 _ _ rfl).trans (m.2 x x0 x1).1, (F.2 _ _ rfl).trans (m.2 x x0 x1).2⟩⟩
      obtain ⟨u, l1, l2⟩ := lawfulAll (τ := τ) (d := d) n2 n5 (e0' τ F) mo ok w1 ui uj hw hc
      rw [l1, cI_rI, e0' τ F]
      by_cases al : AL n W (uRow n.toNat i) (uRow n.toNat j)
      · rw [if_pos (l2.mpr al)]
        rcases h01 with h0 | h1
        · subst h0
          rw [if_pos rfl, more (pg.mpr ⟨ne, al, fun z => by cases z⟩)]
          exact goOn τ F hw hc
        · subst h1
          obtain ⟨τ3, b', e1, F3, e2⟩ := evenM_sp (τ := τ) (d := d) n2 (by omega) (e0' τ F) ui uj hw hc
          have F03 : Fr SRm σ τ3 := F.tr (F3.mono fun b m e => by simp only [SRm, Bool.or_eq_false_iff] at e; exact e.2)
          have hw3 : ∀ x, 0 ≤ x → x < n → τ3.1 106 x.toNat = zI (uRow n.toNat i x) := fun x x0 x1 => (F3.2 _ _ rfl).trans (hw x x0 x1)
          have hc3 : ∀ x, 0 ≤ x → x < n → τ3.1 107 x.toNat = zI (uRow n.toNat j x) := fun x x0 x1 => (F3.2 _ _ rfl).trans (hc x x0 x1)
          rw [if_neg (by decide), e1, cI_rI]
          cases b' with
          | false =>
            rw [bz_ff, if_pos rfl, stay (fun z => by have := e2.mpr ((pg.mp z).2.2 rfl); cases this)]
            exact goOn τ3 F03 hw3 hc3
          | true =>
            rw [bz_tt, if_neg (by decide), more (pg.mpr ⟨ne, al, fun _ => e2.mp rfl⟩)]
            exact goOn τ3 F03 hw3 hc3
      · rw [if_neg (fun z => al (l2.mp z)), stay (fun z => al (pg.mp z).2.1)]
        exact goOn τ F hw hc
theorem countsRules_sp {σ : Sg} {d : Nat} {n : Int} (n2 : 2 ≤ n) (n5 : n ≤ 5) (e0 : σ.1 102 5 = zI n) {W : WS} (m : MWo W σ) (ok : WOk W) (w1 : 1 ≤ W.size) {what : Int} (h01 : what = 0 ∨ what = 1) : ∃ τ', f_M_countsRules (d + 5) (zI what) σ = rI (zI (cnt (PG n W (decide (what = 1))) (fac n.toNat * fac n.toNat))) τ' ∧ Fr SRm σ τ' := by
  have fb := fac_bd n.toNat (by omega)
  have main : ∀ (k : Nat) (x : Int) (τ : Sg), x + k = n → 0 ≤ x → Fr SRm σ τ → (∀ y, 0 ≤ y → y < x → τ.1 106 y.toNat = zI y ∧ τ.1 107 y.toNat = zI y) → ∃ τ', f_M_countsRules_4 (d + 4) (zI what) (zI 0) (zI x) τ = rI (zI (cnt (PG n W (decide (what = 1))) (fac n.toNat * fac n.toNat))) τ' ∧ Fr SRm σ τ' := by
    intro k
    induction k with
    | zero =>
      intro x τ hx x0 F h
      have : x = n := by omega
      subst this
      obtain ⟨τ', a1, a2⟩ := counts_sp (d := d) n2 n5 e0 m ok w1 h01 (fac x.toNat * fac x.toNat) 0 0 τ (by omega) (by omega) (by omega) F (fun y y0 y1 => by rw [(h y y0 y1).1, uRow_0 (by omega) (by omega) y0 (by omega)]) (fun y y0 y1 => by rw [(h y y0 y1).2, uRow_0 (by omega) (by omega) y0 (by omega)])
      refine ⟨τ', ?_, a2⟩
      rw [f_M_countsRules_4_eq, (F.2 _ _ rfl).trans e0, if_neg Int32.lt_irrefl, show (1 : Int32) = zI 1 from zI_lit 1]
      rw [Nat.zero_mul] at a1
      exact a1
    | succ k ih =>
      intro x τ hx x0 F h
      obtain ⟨τ', a1, a2⟩ := ih (x + 1) (sI (sI τ 106 x.toNat (zI x)) 107 x.toNat (zI x)) (by omega) (by omega) ((F.sI _ (by simp [SRm, S6]; omega)).sI _ (by simp [SRm, S6]; omega)) fun y y0 y1 => by
        by_cases q : y = x
        · subst q; rw [sI_same, sI_row _ _ _ _ _ (by decide), sI_same]; exact ⟨rfl, rfl⟩
        · rw [sI_row _ _ _ _ _ (by decide), sI_slot _ _ _ _ (by omega), sI_slot _ _ _ _ (by omega), sI_row _ _ _ _ _ (by decide)]; exact h y y0 (by omega)
      refine ⟨τ', ?_, a2⟩
      rw [f_M_countsRules_4_eq, (F.2 _ _ rfl).trans e0, if_pos (by rw [zI_le (by omega) (by omega)]; omega), bnd_zI x0 (by omega) (by omega), bnd_zI x0 (by omega) (by omega), ix_zI x0 (by omega), show (1 : Int32) = zI 1 from zI_lit 1, zI_add]
      exact a1
  rw [f_M_countsRules_eq, zI_0]
  exact main n.toNat 0 σ (by omega) (by decide) (Fr.rf _ _) fun y y0 y1 => by omega
