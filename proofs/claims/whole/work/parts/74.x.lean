/-! the ways, one by one -/
def QSt : Type := (Nat → Int → Int) × Nat
noncomputable def addq (n : Int) (S : QSt) (g : Int → Int) : QSt := @ite _ (∃ j, j < S.2 ∧ EqN n (S.1 j) g) (Classical.propDecidable _) S (fun i => if i = S.2 then g else S.1 i, S.2 + 1)
noncomputable def bst (n : Int) (W C : Int → Int) : Nat → QSt
  | 0 => (fun _ x => x, 1)
  | k + 1 => addq n (addq n (bst n W C k) (fun x => W ((bst n W C k).1 k x))) (fun x => C ((bst n W C k).1 k x))
def QOk (n : Int) (S : QSt) : Prop := 1 ≤ S.2 ∧ (∀ j, j < S.2 → onN n (S.1 j)) ∧ ∀ i j, i < j → j < S.2 → ¬ EqN n (S.1 i) (S.1 j)
theorem addq_old {n : Int} {S : QSt} {g : Int → Int} (h : ∃ j, j < S.2 ∧ EqN n (S.1 j) g) : addq n S g = S := if_pos h
theorem addq_new {n : Int} {S : QSt} {g : Int → Int} (h : ¬ ∃ j, j < S.2 ∧ EqN n (S.1 j) g) : addq n S g = (fun i => if i = S.2 then g else S.1 i, S.2 + 1) := if_neg h
theorem QOk.le {n : Int} {S : QSt} (n2 : 2 ≤ n) (n6 : n ≤ 6) (h : QOk n S) : S.2 ≤ fac n.toNat := by
  rcases Nat.lt_or_ge (fac n.toNat) S.2 with q | q
  · obtain ⟨i, j, ij, hj, e⟩ := php (fac n.toNat) (fun i => ((nr n (S.1 i) : Nat) : Int)) fun i hi => by
      have := (nr_ok n2 n6 (h.2.1 i (by omega))).1
      show 0 ≤ ((nr n (S.1 i) : Nat) : Int) ∧ ((nr n (S.1 i) : Nat) : Int) < _
      omega
    have e : ((nr n (S.1 i) : Nat) : Int) = ((nr n (S.1 j) : Nat) : Int) := e
    exact absurd ((nr_inj n2 n6 (h.2.1 i (by omega)) (h.2.1 j (by omega))).mp (by omega)) (h.2.2 i j ij (by omega))
  · exact q
theorem addq_ok {n : Int} {S : QSt} {g : Int → Int} (h : QOk n S) (hg : onN n g) : QOk n (addq n S g) := by
  by_cases q : ∃ j, j < S.2 ∧ EqN n (S.1 j) g
  · rw [addq_old q]; exact h
  · rw [addq_new q]
    have e : ∀ j, j < S.2 → (if j = S.2 then g else S.1 j) = S.1 j := fun j hj => if_neg (by omega)
    refine ⟨by show 1 ≤ S.2 + 1; omega, fun j hj => ?_, fun i j ij hj => ?_⟩
    · have hj : j < S.2 + 1 := hj
      show onN n (if j = S.2 then g else S.1 j)
      split
      · exact hg
      · exact h.2.1 j (by omega)
    · have hj : j < S.2 + 1 := hj
      show ¬ EqN n (if i = S.2 then g else S.1 i) (if j = S.2 then g else S.1 j)
      rw [e i (by omega)]
      by_cases z : j = S.2
      · rw [if_pos z]; exact fun y => q ⟨i, by omega, y⟩
      · rw [if_neg z]; exact h.2.2 i j ij (by omega)
theorem addq_pre {n : Int} {S : QSt} {g : Int → Int} : S.2 ≤ (addq n S g).2 ∧ ∀ j, j < S.2 → (addq n S g).1 j = S.1 j := by
  by_cases q : ∃ j, j < S.2 ∧ EqN n (S.1 j) g
  · rw [addq_old q]; exact ⟨Nat.le_refl _, fun _ _ => rfl⟩
  · rw [addq_new q]
    exact ⟨Nat.le_succ _, fun j hj => if_neg (by omega)⟩
theorem onN_comp {n : Int} {f g : Int → Int} (hf : onN n f) (hg : onN n g) : onN n (fun x => f (g x)) := ⟨fun x h0 h1 => hf.1 _ (hg.1 x h0 h1).1 (hg.1 x h0 h1).2, fun x y x0 x1 y0 y1 e => hg.2 x y x0 x1 y0 y1 (hf.2 _ _ (hg.1 x x0 x1).1 (hg.1 x x0 x1).2 (hg.1 y y0 y1).1 (hg.1 y y0 y1).2 e)⟩
theorem bst_ok {n : Int} {W C : Int → Int} (hW : onN n W) (hC : onN n C) : ∀ k : Nat, (∀ j, j < k → j < (bst n W C j).2) → QOk n (bst n W C k)
  | 0, _ => ⟨Nat.le_refl 1, fun j _ => ⟨fun x h0 h1 => ⟨h0, h1⟩, fun _ _ _ _ _ _ e => e⟩, fun i j ij hj => by have hj : j < 1 := hj; omega⟩
  | k + 1, h => by
    have ih := bst_ok hW hC k fun j hj => h j (by omega)
    have hk := ih.2.1 k (h k (by omega))
    exact addq_ok (addq_ok ih (onN_comp hW hk)) (onN_comp hC hk)
theorem bst_pre {n : Int} {W C : Int → Int} (k : Nat) : (bst n W C k).2 ≤ (bst n W C (k + 1)).2 ∧ ∀ j, j < (bst n W C k).2 → (bst n W C (k + 1)).1 j = (bst n W C k).1 j := by
  have a := addq_pre (n := n) (S := bst n W C k) (g := fun x => W ((bst n W C k).1 k x))
  have b := addq_pre (n := n) (S := addq n (bst n W C k) (fun x => W ((bst n W C k).1 k x))) (g := fun x => C ((bst n W C k).1 k x))
  exact ⟨Nat.le_trans a.1 b.1, fun j hj => (b.2 j (by omega)).trans (a.2 j hj)⟩
/-! in the class -/
def CB (n : Int) (S : QSt) (σ : Sg) : Prop := σ.1 69 5 = zI (S.2 : Int) ∧ (∀ j : Nat, j < S.2 → σ.1 71 j = zI ((nr n (S.1 j) : Nat) : Int)) ∧ ∀ v : Nat, v < fac n.toNat → (σ.1 70 v = zI 1 ∧ ∃ j, j < S.2 ∧ nr n (S.1 j) = v) ∨ (σ.1 70 v = zI 0 ∧ ¬ ∃ j, j < S.2 ∧ nr n (S.1 j) = v)
theorem CB.fr {S : Nat → Nat → Bool} {σ σ' : Sg} {n : Int} {Q : QSt} (h : CB n Q σ) (F : Fr S σ σ') (h1 : S 69 5 = false) (h2 : ∀ k, S 70 k = false) (h3 : ∀ k, S 71 k = false) : CB n Q σ' := by
  unfold CB at h ⊢
  rw [F.2 _ _ h1]
  refine ⟨h.1, fun j hj => (F.2 _ _ (h3 j)).trans (h.2.1 j hj), fun v hv => ?_⟩
  rw [F.2 _ _ (h2 v)]; exact h.2.2 v hv
theorem pack_sp {σ : Sg} {d : Nat} {a : Nat} (ha : SH a = (14, 6)) {n : Int} (n0 : 0 ≤ n) (n6 : n ≤ 6) {g : Int → Int} (hg : ∀ x, 0 ≤ x → x < n → σ.1 a x.toNat = zI (g x) ∧ 0 ≤ g x ∧ g x < n) : f_Changes_pack (d + 1) a (zI n) σ = rI (zI ((nr n g : Nat) : Int)) σ := by
  have inner : ∀ (k : Nat) (j i num : Int) (c : Nat), j + k = n → 0 ≤ i → i < j → i < n → f_Changes_pack_17 d a (zI n) (zI num) (zI i) (zI (c : Int)) (zI j) σ = f_Changes_pack_4 d a (zI n) (zI (num + (((c + (rLf g k j).countP (fun b => decide (b < (g i).toNat)) : Nat) : Int)) * ((fac (n - 1 - i).toNat : Nat) : Int))) (zI (i + 1)) (.int (zI ((c + (rLf g k j).countP (fun b => decide (b < (g i).toNat)) : Nat) : Int))) (.int (zI n)) σ := by
    intro k
    induction k with
    | zero =>
      intro j i num c hj i0 ij i1
      have : j = n := by omega
      subst this
      rw [f_Changes_pack_17_eq, if_neg Int32.lt_irrefl, show (1 : Int32) = zI 1 from zI_lit 1, zI_sub, zI_sub, bnd_zI (by omega) (by omega) (by omega), ix_zI (by omega) (by omega), FC_fac _ (by omega), zI_mul, zI_add, zI_add]
      rfl
    | succ k ih =>
      intro j i num c hj i0 ij i1
      obtain ⟨g1, g2, g3⟩ := hg j (by omega) (by omega)
      obtain ⟨h1, h2, h3⟩ := hg i i0 i1
      rw [f_Changes_pack_17_eq, if_pos (by rw [zI_le (by omega) (by omega)]; omega), ldi_of ha (by omega) (by omega) (by omega), ldi_of ha i0 (by omega) (by omega), g1, h1, show (1 : Int32) = zI 1 from zI_lit 1, zI_add, zI_add, rLf, List.countP_cons]
      by_cases z : g j < g i
      · rw [if_pos (by rw [zI_le (by omega) (by omega)]; exact z), if_pos (decide_eq_true (show (g j).toNat < (g i).toNat by omega))]
        have := ih (j + 1) i num (c + 1) (by omega) i0 (by omega) i1
        rw [show ((c + 1 : Nat) : Int) = (c : Int) + 1 by omega] at this
        rw [this, show c + 1 + (rLf g k (j + 1)).countP (fun b => decide (b < (g i).toNat)) = c + ((rLf g k (j + 1)).countP (fun b => decide (b < (g i).toNat)) + 1) by omega]
      · rw [if_neg (by rw [zI_le (by omega) (by omega)]; exact z), if_neg (by simp; omega)]
        exact ih (j + 1) i num c (by omega) i0 (by omega) i1
  have main : ∀ (k : Nat) (i : Int) (num : Nat) (v1 v2 : Value), i + k = n → 0 ≤ i → f_Changes_pack_4 d a (zI n) (zI (num : Int)) (zI i) v1 v2 σ = rI (zI ((num + pck (rLf g k i) : Nat) : Int)) σ := by
    intro k
    induction k with
    | zero =>
      intro i num v1 v2 hi i0
      have : i = n := by omega
      subst this
      rw [f_Changes_pack_4_eq, if_neg Int32.lt_irrefl]; rfl
    | succ k ih =>
      intro i num v1 v2 hi i0
      rw [f_Changes_pack_4_eq, if_pos (by rw [zI_le (by omega) (by omega)]; omega), zI_0, show (1 : Int32) = zI 1 from zI_lit 1, zI_add]
      have := inner k (i + 1) i num 0 (by omega) i0 (by omega) (by omega)
      rw [show ((0 : Nat) : Int) = 0 from rfl] at this
      rw [this, Nat.zero_add, rLf, pck, rLf_len, show (n - 1 - i).toNat = k by omega]
      have e := ih (i + 1) (num + (rLf g k (i + 1)).countP (fun b => decide (b < (g i).toNat)) * fac k) (.int (zI (((rLf g k (i + 1)).countP (fun b => decide (b < (g i).toNat)) : Nat) : Int))) (.int (zI n)) (by omega) (by omega)
      rw [Nat.add_assoc] at e
      rw [← e]
      simp only [Int.natCast_add, Int.natCast_mul]
  rw [f_Changes_pack_eq, zI_0]
  have := main n.toNat 0 0 .null .null (by omega) (by decide)
  rw [Nat.zero_add] at this
  exact this
def SCh (a k : Nat) : Bool := a == 70 || a == 71 || a == 73 || (a == 69 && k == 5)
theorem reach_sp {σ : Sg} {d : Nat} {a : Nat} (ha : SH a = (14, 6)) (a73 : a ≠ 73) {n : Int} (n2 : 2 ≤ n) (n6 : n ≤ 6) {S : QSt} (hS : QOk n S) (hb : CB n S σ) {g h : Int → Int} (hg : onN n g) (hh : onN n h) (eg : ∀ x, 0 ≤ x → x < n → σ.1 72 x.toNat = zI (g x)) (eh : ∀ x, 0 ≤ x → x < n → σ.1 a x.toNat = zI (h x)) : ∃ σ', f_Changes_reach (d + 2) a (zI n) σ = rV σ' ∧ Fr SCh σ σ' ∧ CB n (addq n S (fun x => h (g x))) σ' := by
  have hgh := onN_comp hh hg
  have fb := fac_bd n.toNat (by omega)
  have sle := hS.le n2 n6
  have s1 := hS.1
  have nk := nr_ok n2 n6 hgh
  have fin : ∀ τ, Fr (fun b _ => b == 73) σ τ → (∀ x, 0 ≤ x → x < n → τ.1 73 x.toNat = zI (h (g x))) → ∃ σ', f_Changes_reach_2 (d + 1) a (zI n) (zI n) τ = rV σ' ∧ Fr SCh σ σ' ∧ CB n (addq n S (fun x => h (g x))) σ' := by
    intro τ F hτ
    have F' : Fr SCh σ τ := F.mono fun b k e => by
      simp only [SCh, Bool.or_eq_false_iff] at e; exact e.1.2
    have hb' : CB n S τ := hb.fr F rfl (fun _ => rfl) (fun _ => rfl)
    have pk := pack_sp (σ := τ) (d := d) (a := 73) rfl (by omega : 0 ≤ n) n6 (g := fun x => h (g x)) fun x x0 x1 => ⟨hτ x x0 x1, hgh.1 x x0 x1⟩
    obtain ⟨b1, b2, b3⟩ := hb'
    rw [f_Changes_reach_2_eq, if_neg Int32.lt_irrefl, pk, cI_rI]
    simp only [bnd_zI (show (0 : Int) ≤ ((nr n (fun x => h (g x)) : Nat) : Int) by omega) (show ((nr n (fun x => h (g x)) : Nat) : Int) < (720 : Nat) by omega) (show ((nr n (fun x => h (g x)) : Nat) : Int) < 2147483648 by omega), ix_zI (show (0 : Int) ≤ ((nr n (fun x => h (g x)) : Nat) : Int) by omega) (show ((nr n (fun x => h (g x)) : Nat) : Int) < 2147483648 by omega), Int.toNat_natCast]
    rcases b3 _ nk.1 with ⟨e1, j, j1, j2⟩ | ⟨e1, ne⟩
    · refine ⟨τ, ?_, F', ?_⟩
      · rw [e1, zI_0, if_neg (by decide)]
      · rw [addq_old ⟨j, j1, (nr_inj n2 n6 (hS.2.1 j j1) hgh).mp j2⟩]; exact ⟨b1, b2, b3⟩
    · have ne' : ¬ ∃ j, j < S.2 ∧ EqN n (S.1 j) (fun x => h (g x)) := fun ⟨j, j1, j2⟩ => ne ⟨j, j1, (nr_inj n2 n6 (hS.2.1 j j1) hgh).mpr j2⟩
      have ok' := addq_ok hS hgh
      have le' := ok'.le n2 n6
      rw [addq_new ne'] at le' ⊢
      have le' : S.2 + 1 ≤ fac n.toNat := le'
      refine ⟨sI (sI (sI τ 70 (nr n (fun x => h (g x))) (zI 1)) 69 5 (zI ((S.2 : Int) + 1))) 71 S.2 (zI ((nr n (fun x => h (g x)) : Nat) : Int)), ?_, ((F'.sI _ rfl).sI _ rfl).sI _ rfl, ?_, fun j hj => ?_, fun v hv => ?_⟩
      · rw [e1, zI_0, if_pos rfl, b1, if_pos (by rw [show (720 : Int32) = zI 720 from zI_lit 720, zI_le (by omega) (by decide)]; omega), show (1 : Int32) = zI 1 from zI_lit 1]
        rw [show (sI τ 70 (nr n (fun x => h (g x))) (zI 1)).1 69 5 = zI (S.2 : Int) from b1, zI_add, bnd_zI (by omega) (by omega) (by omega), ix_zI (by omega) (by omega), Int.toNat_natCast]
      · rw [sI_row _ _ _ _ _ (by decide), sI_same]
        show zI ((S.2 : Int) + 1) = zI ((S.2 + 1 : Nat) : Int)
        rfl
      · have hj : j < S.2 + 1 := hj
        show _ = zI ((nr n (if j = S.2 then (fun x => h (g x)) else S.1 j) : Nat) : Int)
        by_cases z : j = S.2
        · subst z; rw [sI_same, if_pos rfl]
        · rw [sI_slot _ _ _ _ z, sI_row _ _ _ _ _ (by decide), sI_row _ _ _ _ _ (by decide), if_neg z]; exact b2 j (by omega)
      · rw [sI_row _ _ _ _ _ (by decide), sI_row _ _ _ _ _ (by decide)]
        by_cases z : v = nr n (fun x => h (g x))
        · subst z
          refine Or.inl ⟨sI_same _ _ _ _, S.2, Nat.lt_succ_self _, ?_⟩
          show nr n (if S.2 = S.2 then (fun x => h (g x)) else S.1 S.2) = _
          rw [if_pos rfl]
        · rw [sI_slot _ _ _ _ z]
          rcases b3 v hv with ⟨e2, j, j1, j2⟩ | ⟨e2, ne2⟩
          · refine Or.inl ⟨e2, j, by show j < S.2 + 1; omega, ?_⟩
            show nr n (if j = S.2 then (fun x => h (g x)) else S.1 j) = _
            rw [if_neg (by omega)]; exact j2
          · refine Or.inr ⟨e2, fun ⟨j, j1, j2⟩ => ?_⟩
            have j1 : j < S.2 + 1 := j1
            have j2 : nr n (if j = S.2 then (fun x => h (g x)) else S.1 j) = v := j2
            by_cases y : j = S.2
            · rw [if_pos y] at j2; exact z j2.symm
            · rw [if_neg y] at j2; exact ne2 ⟨j, by omega, j2⟩
  have loop : ∀ (k : Nat) (x : Int) (τ : Sg), x + k = n → 0 ≤ x → Fr (fun b _ => b == 73) σ τ → (∀ y, 0 ≤ y → y < x → τ.1 73 y.toNat = zI (h (g y))) → ∃ σ', f_Changes_reach_2 (d + 1) a (zI n) (zI x) τ = rV σ' ∧ Fr SCh σ σ' ∧ CB n (addq n S (fun x => h (g x))) σ' := by
    intro k
    induction k with
    | zero =>
      intro x τ hx x0 F hτ
      have : x = n := by omega
      subst this
      exact fin τ F hτ
    | succ k ih =>
      intro x τ hx x0 F hτ
      have x1 : x < n := by omega
      have gb := hg.1 x x0 x1
      have e72 : τ.1 72 x.toNat = zI (g x) := (F.2 _ _ rfl).trans (eg x x0 x1)
      have ea : τ.1 a (g x).toNat = zI (h (g x)) := (F.2 _ _ (by simpa using a73)).trans (eh _ gb.1 gb.2)
      obtain ⟨σ', a1, a2⟩ := ih (x + 1) (sI τ 73 x.toNat (zI (h (g x)))) (by omega) (by omega) (F.sI _ rfl) fun y y0 y1 => by
        by_cases q : y = x
        · subst q; rw [sI_same]
        · rw [sI_slot _ _ _ _ (by omega)]; exact hτ y y0 (by omega)
      refine ⟨σ', ?_, a2⟩
      rw [f_Changes_reach_2_eq, if_pos (by rw [zI_le (by omega) (by omega)]; omega), bnd_zI x0 (by omega) (by omega), ix_zI x0 (by omega), e72, ldi_of ha gb.1 (by omega) (by omega), ea, bnd_zI x0 (by omega) (by omega), show (1 : Int32) = zI 1 from zI_lit 1, zI_add]
      exact a1
  rw [f_Changes_reach_eq, zI_0]
  exact loop n.toNat 0 σ (by omega) (by decide) (Fr.rf _ _) fun y y0 y1 => by omega
