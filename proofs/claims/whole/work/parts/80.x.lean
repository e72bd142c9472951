/-! the next row -/
theorem uRow_ok {n i : Nat} (n2 : 2 ≤ n) (n5 : n ≤ 5) (hi : i < fac n) : onN (n : Int) (uRow n i) ∧ (upk n i []).reverse = rLf (uRow n i) n 0 ∧ (i + 1 < fac n → (nxF n (uRow n i)).2 = true ∧ ∀ x : Int, 0 ≤ x → x < n → (nxF n (uRow n i)).1 x = uRow n (i + 1) x) ∧ (¬ i + 1 < fac n → (nxF n (uRow n i)).2 = false) ∧ (fI (uRow n i) (n - 1) < 0 ∨ fI (uRow n i) (n - 1) < fJ (uRow n i) (uRow n i (fI (uRow n i) (n - 1))) (n - 1)) := by
  have h := okU_at n2 n5 hi
  unfold okU at h
  simp only [Bool.and_eq_true, Bool.or_eq_true, decide_eq_true_eq] at h
  obtain ⟨⟨⟨⟨h1, h2⟩, h3⟩, h4⟩, h5⟩ := h
  have hl := Nat.eq_of_beq_eq_true h1
  have hn := ndB_nd _ h3
  have ge : ∀ x : Nat, ∀ hx : x < n, (upk n i []).reverse[x]? = some ((upk n i []).reverse[x]'(by omega)) := fun x hx => List.getElem?_eq_getElem (by omega)
  have uv : ∀ x : Int, (x0 : 0 ≤ x) → (x1 : x < n) → uRow n i x = (((upk n i []).reverse[x.toNat]'(by omega) : Nat) : Int) := fun x x0 x1 => by
    unfold uRow; rw [ge x.toNat (by omega)]; rfl
  refine ⟨⟨fun x x0 x1 => ?_, fun x y x0 x1 y0 y1 e => ?_⟩, ?_, fun q => ?_, fun q => ?_, h5⟩
  · rw [uv x x0 x1]
    have := List.all_eq_true.mp h2 _ (List.getElem_mem (l := (upk n i []).reverse) (n := x.toNat) (by omega))
    have := Nat.le_of_ble_eq_true this
    omega
  · rw [uv x x0 x1, uv y y0 y1] at e
    have e := Int.ofNat.inj e
    have pw := List.pairwise_iff_getElem.mp hn
    rcases Nat.lt_trichotomy x.toNat y.toNat with z | z | z
    · exact absurd e (pw _ _ (by omega) (by omega) z)
    · omega
    · exact absurd e.symm (pw _ _ (by omega) (by omega) z)
  · refine List.ext_getElem? fun j => ?_
    by_cases z : j < n
    · rw [rLf_get _ _ _ z, ge j z, Int.zero_add, uv j (by omega) (by omega)]; rfl
    · rw [List.getElem?_eq_none (by omega), List.getElem?_eq_none (by rw [rLf_len]; omega)]
  · have q' : Nat.blt (i + 1) (fac n) = true := Nat.ble_eq_true_of_le q
    rw [q', cond_true, Bool.and_eq_true] at h4
    refine ⟨h4.1, fun x x0 x1 => ?_⟩
    have := of_decide_eq_true (allB_at _ h4.2 x.toNat (by omega))
    rwa [toNat_c x0] at this
  · have q' : Nat.blt (i + 1) (fac n) = false := by
      cases z : Nat.blt (i + 1) (fac n) with
      | false => rfl
      | true => exact absurd (Nat.le_of_ble_eq_true z) q
    rw [q', cond_false, Bool.not_eq_true'] at h4
    exact h4
theorem fI_bd (f : Int → Int) : ∀ k : Nat, -1 ≤ fI f k ∧ fI f k < k ∨ k = 0 ∧ fI f k = -1
  | 0 => Or.inr ⟨rfl, rfl⟩
  | k + 1 => by
    have := fI_bd f k
    unfold fI
    split <;> omega
def S6 (a b k : Nat) : Bool := b == a && decide (k < 6)
theorem S6_in {a k : Nat} (h : k < 6) : S6 a a k = true := by simp [S6, h]
theorem changesRow_sp {τ : Sg} {d a : Nat} (ha : SH a = (14, 6)) {n i j : Int} (n6 : n ≤ 6) {f : Int → Int} (hf : ∀ x, 0 ≤ x → x < n → τ.1 a x.toNat = zI (f x)) (i0 : 0 ≤ i) (i1 : i < n) (j0 : 0 ≤ j) (j1 : j < n) : ∃ τ', f_M_changesRow (d + 1) a (zI i) (zI j) τ = rV τ' ∧ Fr (S6 a) τ τ' ∧ ∀ x, 0 ≤ x → x < n → τ'.1 a x.toNat = zI (swp f i j x) := by
  refine ⟨sI (sI τ a i.toNat (zI (f j))) a j.toNat (zI (f i)), ?_, ((Fr.rf _ τ).sI _ (S6_in (by omega))).sI _ (S6_in (by omega)), fun x x0 x1 => ?_⟩
  · rw [f_M_changesRow_eq, ldi_of ha i0 (by omega) (by omega), ldi_of ha j0 (by omega) (by omega), stI_of ha i0 (by omega) (by omega), stI_of ha j0 (by omega) (by omega), hf i i0 i1, hf j j0 j1]
  · unfold swp
    by_cases z : x = j
    · subst z; rw [sI_same, if_pos rfl]
    · rw [sI_slot _ _ _ _ (by omega), if_neg z]
      by_cases y : x = i
      · subst y; rw [sI_same, if_pos rfl]
      · rw [sI_slot _ _ _ _ (by omega), if_neg y]; exact hf x x0 x1
theorem nextRow_sp {τ : Sg} {d a : Nat} (ha : SH a = (14, 6)) (a102 : a ≠ 102) {n : Nat} (n2 : 2 ≤ n) (n6 : n ≤ 6) (e0 : τ.1 102 5 = zI (n : Int)) {f : Int → Int} (on : onN (n : Int) f) (hf : ∀ x : Int, 0 ≤ x → x < n → τ.1 a x.toNat = zI (f x)) (hc : fI f (n - 1) < 0 ∨ fI f (n - 1) < fJ f (f (fI f (n - 1))) (n - 1)) : ∃ τ', f_M_nextRow (d + 2) a τ = rI (bz (nxF n f).2) τ' ∧ Fr (S6 a) τ τ' ∧ ∀ x : Int, 0 ≤ x → x < n → τ'.1 a x.toNat = zI ((nxF n f).1 x) := by
  have rev : ∀ (k : Nat) (x y : Int) (g : Int → Int) (υ : Sg) (v1 v2 : Value), 0 ≤ x → x ≤ 10 → -10 ≤ y → y < n → y ≤ x + 2 * k → υ.1 102 5 = zI (n : Int) → (∀ z : Int, 0 ≤ z → z < n → υ.1 a z.toNat = zI (g z)) → ∃ υ', f_M_nextRow_98 (d + 1) a v1 v2 (zI x) (zI y) υ = rI (zI 1) υ' ∧ Fr (S6 a) υ υ' ∧ ∀ z : Int, 0 ≤ z → z < n → υ'.1 a z.toNat = zI (rvF k g x y z) := by
    intro k
    induction k with
    | zero =>
      intro x y g υ v1 v2 x0 x1 y0 y1 xy e0 hg
      refine ⟨υ, ?_, Fr.rf _ _, hg⟩
      rw [f_M_nextRow_98_eq, if_neg (by rw [zI_le (by omega) (by omega)]; omega), rZ_1]
    | succ k ih =>
      intro x y g υ v1 v2 x0 x1 y0 y1 xy e0 hg
      by_cases q : x < y
      · obtain ⟨υ1, c1, F1, c2⟩ := changesRow_sp (d := d) ha (by omega) hg x0 (by omega) (by omega) y1
        obtain ⟨υ2, g1, F2, g2⟩ := ih (x + 1) (y - 1) (swp g x y) υ1 v1 (nlg v2) (by omega) (by omega) (by omega) (by omega) (by omega) ((F1.2 _ _ (by simp [S6]; omega)).trans e0) c2
        refine ⟨υ2, ?_, F1.tr F2, fun z z0 z1 => ?_⟩
        · rw [f_M_nextRow_98_eq, if_pos (by rw [zI_le (by omega) (by omega)]; exact q), c1, cV_rV, show (-1 : Int32) = zI (-1) from rfl, show (1 : Int32) = zI 1 from zI_lit 1, zI_add, zI_add]
          exact g1
        · rw [rvF, if_pos q]; exact g2 z z0 z1
      · refine ⟨υ, ?_, Fr.rf _ _, fun z z0 z1 => ?_⟩
        · rw [f_M_nextRow_98_eq, if_neg (by rw [zI_le (by omega) (by omega)]; exact q), rZ_1]
        · rw [rvF, if_neg q]; exact hg z z0 z1
  have reset : ∀ (k : Nat) (x : Int) (υ : Sg) (v1 v2 v3 : Value), x + k = n → 0 ≤ x → υ.1 102 5 = zI (n : Int) → (∀ z : Int, 0 ≤ z → z < x → υ.1 a z.toNat = zI z) → ∃ υ', f_M_nextRow_35 (d + 1) a v1 (zI x) v2 v3 υ = rI (zI 0) υ' ∧ Fr (S6 a) υ υ' ∧ ∀ z : Int, 0 ≤ z → z < n → υ'.1 a z.toNat = zI z := by
    intro k
    induction k with
    | zero =>
      intro x υ v1 v2 v3 hx x0 e0 hg
      have : x = n := by omega
      subst this
      refine ⟨υ, ?_, Fr.rf _ _, hg⟩
      rw [f_M_nextRow_35_eq, e0, if_neg Int32.lt_irrefl, rZ_0]
    | succ k ih =>
      intro x υ v1 v2 v3 hx x0 e0 hg
      obtain ⟨υ', g1, g2, g3⟩ := ih (x + 1) (sI υ a x.toNat (zI x)) (nlg v1) v2 v3 (by omega) (by omega) ((sI_row _ _ _ _ _ (Ne.symm a102)).trans e0) fun z z0 z1 => by
        by_cases q : z = x
        · subst q; rw [sI_same]
        · rw [sI_slot _ _ _ _ (by omega)]; exact hg z z0 (by omega)
      refine ⟨υ', ?_, ((Fr.rf _ υ).sI _ (S6_in (by omega))).tr g2, g3⟩
      rw [f_M_nextRow_35_eq, e0, if_pos (by rw [zI_le (by omega) (by omega)]; omega), stI_of ha x0 (by omega) (by omega), show (1 : Int32) = zI 1 from zI_lit 1, zI_add]
      exact g1
  have jl : ∀ (k : Nat) (i : Int) (v1 v2 : Value), k < n → 0 ≤ i → i < n → i < fJ f (f i) k → fJ f (f i) k ≤ k → ∃ τ', f_M_nextRow_62 (d + 1) a (zI i) (zI (k : Int)) v1 v2 τ = rI (zI 1) τ' ∧ Fr (S6 a) τ τ' ∧ ∀ z : Int, 0 ≤ z → z < n → τ'.1 a z.toNat = zI (rvF n (swp f i (fJ f (f i) k)) (i + 1) ((n : Int) - 1) z) := by
    intro k
    induction k with
    | zero => intro i v1 v2 _ i0 i1 hj _; unfold fJ at hj; omega
    | succ k ih =>
      intro i v1 v2 kn i0 i1 hj hj2
      have b1 := on.1 i i0 i1
      have b2 := on.1 ((k : Int) + 1) (by omega) (by omega)
      have e1 := hf i i0 i1
      have e2 := hf ((k : Int) + 1) (by omega) (by omega)
      rw [f_M_nextRow_62_eq, show ((k + 1 : Nat) : Int) = (k : Int) + 1 by omega, ldi_of ha (by omega) (by omega) (by omega), ldi_of ha i0 (by omega) (by omega), e1, e2]
      unfold fJ at hj ⊢
      by_cases q : f ((k : Int) + 1) < f i
      · rw [if_pos (by rw [zI_le (by omega) (by omega)]; exact q)]
        rw [if_pos q] at hj ⊢
        rw [show (1 : Int32) = zI 1 from zI_lit 1, zI_sub, show (k : Int) + 1 - 1 = k by omega]
        have fk : ∀ m : Nat, fJ f (f i) m ≤ m := fun m => by
          induction m with
          | zero => exact Int.le_refl 0
          | succ m ih => unfold fJ; split <;> omega
        exact ih i v1 v2 (by omega) i0 i1 hj (fk k)
      · rw [if_neg (by rw [zI_le (by omega) (by omega)]; exact q)]
        rw [if_neg q] at hj ⊢
        obtain ⟨τ1, c1, F1, c2⟩ := changesRow_sp (d := d) ha (by omega) hf i0 i1 (show 0 ≤ (k : Int) + 1 by omega) (by omega)
        have e1' : τ1.1 102 5 = zI (n : Int) := (F1.2 _ _ (by simp [S6]; omega)).trans e0
        obtain ⟨τ2, g1, F2, g2⟩ := rev n (i + 1) ((n : Int) - 1) (swp f i ((k : Int) + 1)) τ1 (.int (zI i)) (.int (zI ((k : Int) + 1))) (by omega) (by omega) (by omega) (by omega) (by omega) e1' c2
        refine ⟨τ2, ?_, F1.tr F2, g2⟩
        rw [c1, cV_rV, e1', show (1 : Int32) = zI 1 from zI_lit 1, zI_add, zI_sub]
        exact g1
  have fk : ∀ (v : Int) (m : Nat), fJ f v m ≤ m := fun v m => by
    induction m with
    | zero => exact Int.le_refl 0
    | succ m ih => unfold fJ; split <;> omega
  have il : ∀ (k : Nat) (v1 v2 v3 : Value), k < n → fI f k = fI f (n - 1) → ∃ τ', f_M_nextRow_7 (d + 1) a (zI ((k : Int) - 1)) v1 v2 v3 τ = rI (bz (nxF n f).2) τ' ∧ Fr (S6 a) τ τ' ∧ ∀ x : Int, 0 ≤ x → x < n → τ'.1 a x.toNat = zI ((nxF n f).1 x) := by
    intro k
    induction k with
    | zero =>
      intro v1 v2 v3 kn hk
      have z : fI f (n - 1) < 0 := by rw [← hk]; show (-1 : Int) < 0; decide
      obtain ⟨τ', g1, g2, g3⟩ := reset n 0 τ (.int (zI (-1))) v2 v3 (by omega) (by decide) e0 fun z z0 z1 => by omega
      have e : nxF n f = (fun x => x, false) := if_pos z
      rw [e]
      refine ⟨τ', ?_, g2, g3⟩
      rw [f_M_nextRow_7_eq, zI_0, if_pos (by decide), if_pos (by decide)]
      exact g1
    | succ k ih =>
      intro v1 v2 v3 kn hk
      have b1 := on.1 (k : Int) (by omega) (by omega)
      have b2 := on.1 ((k : Int) + 1) (by omega) (by omega)
      have e1 := hf (k : Int) (by omega) (by omega)
      have e2 := hf ((k : Int) + 1) (by omega) (by omega)
      rw [show ((k + 1 : Nat) : Int) - 1 = (k : Int) by omega, f_M_nextRow_7_eq, zI_0, if_neg (by rw [zI_le (by omega) (by decide)]; omega), ldi_of ha (by omega) (by omega) (by omega), show (1 : Int32) = zI 1 from zI_lit 1, zI_add, ldi_of ha (by omega) (by omega) (by omega), e1, e2]
      rw [fI] at hk
      by_cases q : f ((k : Int) + 1) < f (k : Int)
      · rw [if_pos q] at hk
        rw [if_pos (by rw [zI_le (by omega) (by omega)]; exact q), zI_sub]
        exact ih v1 v2 v3 (by omega) hk
      · rw [if_neg q] at hk
        rw [if_neg (by rw [zI_le (by omega) (by omega)]; exact q), if_neg (by rw [zI_le (by omega) (by decide)]; omega), e0, zI_sub]
        have hc' : (k : Int) < fJ f (f (k : Int)) (n - 1) := by
          rw [← hk] at hc
          rcases hc with hc | hc
          · omega
          · exact hc
        obtain ⟨τ', g1, g2, g3⟩ := jl (n - 1) (k : Int) v2 v3 (by omega) (by omega) (by omega) hc' (fk _ _)
        have e : nxF n f = (rvF n (swp f (k : Int) (fJ f (f (k : Int)) (n - 1))) ((k : Int) + 1) ((n : Int) - 1), true) := by
          unfold nxF
          rw [← hk, if_neg (by omega)]
        rw [e]
        refine ⟨τ', ?_, g2, g3⟩
        rw [show (n : Int) - 1 = ((n - 1 : Nat) : Int) by omega]
        exact g1
  rw [f_M_nextRow_eq, e0, show (2 : Int32) = zI 2 from zI_lit 2, zI_sub, show (n : Int) - 2 = ((n - 1 : Nat) : Int) - 1 by omega]
  exact il (n - 1) .null .null .null (by omega) rfl
