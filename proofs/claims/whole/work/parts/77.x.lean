/-! all the ways: closed; sides; even -/
theorem addq_mem {n : Int} {S : QSt} {g : Int → Int} : ∃ j, j < (addq n S g).2 ∧ EqN n ((addq n S g).1 j) g := by
  by_cases q : ∃ j, j < S.2 ∧ EqN n (S.1 j) g
  · rw [addq_old q]; exact q
  · rw [addq_new q]
    refine ⟨S.2, Nat.lt_succ_self _, ?_⟩
    show EqN n (if S.2 = S.2 then g else S.1 S.2) g
    rw [if_pos rfl]; exact fun _ _ _ => rfl
theorem bst_le {n : Int} {W C : Int → Int} {k : Nat} : ∀ b : Nat, (bst n W C k).2 ≤ (bst n W C (k + b)).2 ∧ ∀ j, j < (bst n W C k).2 → (bst n W C (k + b)).1 j = (bst n W C k).1 j
  | 0 => ⟨Nat.le_refl _, fun _ _ => rfl⟩
  | b + 1 => by
    have a := bst_le (n := n) (W := W) (C := C) (k := k) b
    have c := bst_pre (n := n) (W := W) (C := C) (k + b)
    exact ⟨Nat.le_trans a.1 c.1, fun j hj => (c.2 j (by omega)).trans (a.2 j hj)⟩
theorem bst_mem {n : Int} {W C : Int → Int} (k : Nat) : (∃ j, j < (bst n W C (k + 1)).2 ∧ EqN n ((bst n W C (k + 1)).1 j) (fun x => W ((bst n W C k).1 k x))) ∧ ∃ j, j < (bst n W C (k + 1)).2 ∧ EqN n ((bst n W C (k + 1)).1 j) (fun x => C ((bst n W C k).1 k x)) := by
  refine ⟨?_, addq_mem⟩
  obtain ⟨j, j1, j2⟩ := addq_mem (n := n) (S := bst n W C k) (g := fun x => W ((bst n W C k).1 k x))
  have b := addq_pre (n := n) (S := addq n (bst n W C k) (fun x => W ((bst n W C k).1 k x))) (g := fun x => C ((bst n W C k).1 k x))
  refine ⟨j, Nat.lt_of_lt_of_le j1 b.1, ?_⟩
  show EqN n ((addq n (addq n (bst n W C k) (fun x => W ((bst n W C k).1 k x))) (fun x => C ((bst n W C k).1 k x))).1 j) _
  rw [b.2 j j1]; exact j2
/-- closed at K -/
def Cls (n : Int) (W C : Int → Int) (K : Nat) : Prop := (∀ j, j < K → j < (bst n W C j).2) ∧ (bst n W C K).2 ≤ K
theorem Cls.mem {n : Int} {W C : Int → Int} {K : Nat} (h : Cls n W C K) {j : Nat} (hj : j < (bst n W C K).2) : (∃ i, i < (bst n W C K).2 ∧ EqN n ((bst n W C K).1 i) (fun x => W ((bst n W C K).1 j x))) ∧ ∃ i, i < (bst n W C K).2 ∧ EqN n ((bst n W C K).1 i) (fun x => C ((bst n W C K).1 j x)) := by
  have jK : j < K := Nat.lt_of_lt_of_le hj h.2
  have jj := h.1 j jK
  obtain ⟨b, rfl⟩ : ∃ b, K = j + 1 + b := ⟨K - (j + 1), by omega⟩
  have p1 := bst_le (n := n) (W := W) (C := C) (k := j + 1) b
  have p0 := bst_pre (n := n) (W := W) (C := C) j
  have ej : (bst n W C (j + 1 + b)).1 j = (bst n W C j).1 j := (p1.2 j (Nat.lt_of_lt_of_le jj p0.1)).trans (p0.2 j jj)
  obtain ⟨⟨i, i1, i2⟩, i', i3, i4⟩ := bst_mem (n := n) (W := W) (C := C) j
  rw [ej]
  exact ⟨⟨i, Nat.lt_of_lt_of_le i1 p1.1, by rw [p1.2 i i1]; exact i2⟩, i', Nat.lt_of_lt_of_le i3 p1.1, by rw [p1.2 i' i3]; exact i4⟩
theorem bst_min {n : Int} {W C : Int → Int} (hW : onN n W) (hC : onN n C) {x : Int} (x0 : 0 ≤ x) (x1 : x < n) {P : Int → Prop} (hx : P x) (hP : ∀ z, 0 ≤ z → z < n → P z → P (W z) ∧ P (C z)) : ∀ k : Nat, (∀ j, j < k → j < (bst n W C j).2) → ∀ j, j < (bst n W C k).2 → P ((bst n W C k).1 j x)
  | 0, _, _, _ => hx
  | k + 1, h, j, hj => by
    have ih := bst_min hW hC x0 x1 hx hP k fun j hj => h j (by omega)
    have hk := h k (by omega)
    have on := (bst_ok hW hC k fun j hj => h j (by omega)).2.1 k hk
    have b := on.1 x x0 x1
    have pk := hP _ b.1 b.2 (ih k hk)
    have key : ∀ (S : QSt) (g : Int → Int), (∀ j, j < S.2 → P (S.1 j x)) → P (g x) → ∀ j, j < (addq n S g).2 → P ((addq n S g).1 j x) := fun S g a c j hj => by
      by_cases q : ∃ j, j < S.2 ∧ EqN n (S.1 j) g
      · rw [addq_old q] at hj ⊢; exact a j hj
      · rw [addq_new q] at hj ⊢
        have hj : j < S.2 + 1 := hj
        show P ((if j = S.2 then g else S.1 j) x)
        by_cases z : j = S.2
        · rw [if_pos z]; exact c
        · rw [if_neg z]; exact a j (by omega)
    exact key _ _ (key _ _ ih pk.1) pk.2 j hj
theorem Cls.orb {n : Int} {W C : Int → Int} {K : Nat} (h : Cls n W C K) (hW : onN n W) (hC : onN n C) {x y : Int} (x0 : 0 ≤ x) (x1 : x < n) (y0 : 0 ≤ y) (y1 : y < n) : (∃ j, j < (bst n W C K).2 ∧ (bst n W C K).1 j x = y) ↔ Cn (edF W C n) x y := by
  have ok := bst_ok hW hC K h.1
  constructor
  · rintro ⟨j, j1, rfl⟩
    exact (bst_min hW hC x0 x1 (P := fun z => Cn (edF W C n) x z) (Cn.rf _ _) (fun z z0 z1 p => ⟨p.tr (Cn.ed ⟨z0, z1, Or.inl rfl⟩), p.tr (Cn.ed ⟨z0, z1, Or.inr rfl⟩)⟩) K h.1 j j1)
  · intro q
    have fw : ∀ z, (∃ j, j < (bst n W C K).2 ∧ (bst n W C K).1 j x = z) → (∃ j, j < (bst n W C K).2 ∧ (bst n W C K).1 j x = W z) ∧ ∃ j, j < (bst n W C K).2 ∧ (bst n W C K).1 j x = C z := by
      rintro z ⟨j, j1, rfl⟩
      obtain ⟨⟨i, i1, i2⟩, i', i3, i4⟩ := h.mem j1
      exact ⟨⟨i, i1, i2 x x0 x1⟩, i', i3, i4 x x0 x1⟩
    have it : ∀ (f : Int → Int), (∀ z, (∃ j, j < (bst n W C K).2 ∧ (bst n W C K).1 j x = z) → ∃ j, j < (bst n W C K).2 ∧ (bst n W C K).1 j x = f z) → ∀ (m : Nat) z, (∃ j, j < (bst n W C K).2 ∧ (bst n W C K).1 j x = z) → ∃ j, j < (bst n W C K).2 ∧ (bst n W C K).1 j x = itF f m z := by
      intro f hf m z hz
      induction m with
      | zero => exact hz
      | succ m ih => exact hf _ ih
    have bk : ∀ (f : Int → Int), onN n f → (∀ z, (∃ j, j < (bst n W C K).2 ∧ (bst n W C K).1 j x = z) → ∃ j, j < (bst n W C K).2 ∧ (bst n W C K).1 j x = f z) → ∀ z, 0 ≤ z → z < n → (∃ j, j < (bst n W C K).2 ∧ (bst n W C K).1 j x = f z) → ∃ j, j < (bst n W C K).2 ∧ (bst n W C K).1 j x = z := by
      intro f on hf z z0 z1 hz
      obtain ⟨L, l1, -, l2, -⟩ := circ_ex on z0 z1
      have := it f hf (L - 1) (f z) hz
      have e : itF f (L - 1) (f z) = z := by
        have := itF_add f (L - 1) 1 z
        rw [show L - 1 + 1 = L by omega, l2] at this
        exact this.symm
      rwa [e] at this
    refine q (fun z => ∃ j, j < (bst n W C K).2 ∧ (bst n W C K).1 j x = z) ?_ fun u v e => ?_
    · have := bst_le (n := n) (W := W) (C := C) (k := 0) K
      rw [Nat.zero_add] at this
      exact ⟨0, ok.1, by rw [this.2 0 Nat.one_pos]; rfl⟩
    · obtain ⟨u0, u1, rfl | rfl⟩ := e
      · exact ⟨fun z => (fw u z).1, bk W hW (fun z q => (fw z q).1) u u0 u1⟩
      · exact ⟨fun z => (fw u z).2, bk C hC (fun z q => (fw z q).2) u u0 u1⟩
theorem Cls.uniq {n : Int} {W C : Int → Int} {K k : Nat} (h : Cls n W C K) (hk : ∀ j, j < k → j < (bst n W C j).2) : k ≤ K ∧ ((bst n W C k).2 ≤ k → k = K) := by
  have a : k ≤ K := by
    rcases Nat.lt_or_ge K k with q | q
    · have := hk K q; have := h.2; omega
    · exact q
  refine ⟨a, fun q => ?_⟩
  rcases Nat.lt_or_ge k K with z | z
  · have := h.1 k z; omega
  · omega
/-! sums -/
def sm (f : Int → Int) : Nat → Int
  | 0 => 0
  | k + 1 => sm f k + f (k : Int)
theorem sm_congr {f g : Int → Int} : ∀ {k : Nat}, (∀ i : Int, 0 ≤ i → i < k → f i = g i) → sm f k = sm g k
  | 0, _ => rfl
  | k + 1, h => by rw [sm, sm, sm_congr fun i i0 i1 => h i i0 (by omega), h k (by omega) (by omega)]
theorem sm_add (f g : Int → Int) : ∀ k : Nat, sm (fun x => f x + g x) k = sm f k + sm g k
  | 0 => rfl
  | k + 1 => by rw [sm, sm, sm, sm_add f g k]; omega
theorem sm_zero : ∀ k : Nat, sm (fun _ => 0) k = 0
  | 0 => rfl
  | k + 1 => by rw [sm, sm_zero k]; rfl
theorem sm_swap (f : Int → Int → Int) (m : Nat) : ∀ k : Nat, sm (fun x => sm (f x) m) k = sm (fun y => sm (fun x => f x y) k) m
  | 0 => (sm_zero m).symm
  | k + 1 => by
    rw [sm, sm_swap f m k]
    rw [← sm_add]; rfl
theorem sm_one : ∀ k : Nat, sm (fun _ => 1) k = k
  | 0 => rfl
  | k + 1 => by rw [sm, sm_one k]; rfl
theorem sm_cnt (p : Int → Bool) : ∀ k : Nat, cnt p k = sm (fun x => if p x = true then 1 else 0) k
  | 0 => rfl
  | k + 1 => by rw [cnt_s, sm_cnt p k]; rfl
theorem sm_single {a : Int} : ∀ k : Nat, sm (fun r => if r = a then 1 else 0) k = if 0 ≤ a ∧ a < k then 1 else 0
  | 0 => by rw [if_neg (by omega)]; rfl
  | k + 1 => by
    rw [sm, sm_single k]
    by_cases z : (k : Int) = a
    · rw [if_pos z, if_neg (by omega), if_pos (by omega)]; rfl
    · rw [if_neg z]
      by_cases q : 0 ≤ a ∧ a < k
      · rw [if_pos q, if_pos (by omega)]; rfl
      · rw [if_neg q, if_neg (by omega)]; rfl
theorem sm_le {f g : Int → Int} : ∀ {k : Nat}, (∀ i : Int, 0 ≤ i → i < k → f i ≤ g i) → sm f k ≤ sm g k ∧ (sm f k = sm g k → ∀ i : Int, 0 ≤ i → i < k → f i = g i)
  | 0, _ => ⟨Int.le_refl _, fun _ i i0 i1 => by omega⟩
  | k + 1, h => by
    have ih := sm_le (f := f) (g := g) (k := k) fun i i0 i1 => h i i0 (by omega)
    have hk := h k (by omega) (by omega)
    rw [sm, sm]
    refine ⟨by omega, fun e i i0 i1 => ?_⟩
    by_cases z : i = k
    · rw [z]; omega
    · exact ih.2 (by omega) i i0 (by omega)
theorem sm_mul (p : Int → Bool) (M : Int) : ∀ k : Nat, sm (fun x => if p x = true then M else 0) k = cnt p k * M
  | 0 => by rw [sm, cnt]; omega
  | k + 1 => by
    rw [sm, sm_mul p M k, cnt_s, Int.add_mul]
    split <;> simp
theorem even_iff {n : Int} {E : Int → Int → Prop} {G : Int → Int} (n0 : 0 ≤ n) (hL : Lab n E G) {M : Int} (hM : ∀ x, 0 ≤ x → x < n → cnt (fun y => decide (G y = G x)) n.toNat ≤ M) : (∀ x, 0 ≤ x → x < n → cnt (fun y => decide (G y = G x)) n.toNat = M) ↔ cnt (fun x => decide (G x = x)) n.toNat * M = n := by
  have gg : ∀ y, 0 ≤ y → y < n → 0 ≤ G y ∧ G y < n ∧ G (G y) = G y := fun y y0 y1 => by
    obtain ⟨a, b, c, d⟩ := hL.2 y y0 y1
    exact ⟨a, by omega, d _ a (by omega) c⟩
  have tot : sm (fun r => cnt (fun y => decide (G y = r)) n.toNat) n.toNat = n := by
    have e1 : sm (fun r => cnt (fun y => decide (G y = r)) n.toNat) n.toNat = sm (fun r => sm (fun y => if G y = r then 1 else 0) n.toNat) n.toNat := sm_congr fun r _ _ => by
      rw [sm_cnt]; exact sm_congr fun y _ _ => by simp
    rw [e1, sm_swap]
    have e2 : sm (fun y => sm (fun x => if G y = x then 1 else 0) n.toNat) n.toNat = sm (fun _ => 1) n.toNat := sm_congr fun y y0 y1 => by
      have := gg y y0 (by omega)
      have e3 : sm (fun x => if G y = x then 1 else 0) n.toNat = sm (fun x => if x = G y then 1 else 0) n.toNat := sm_congr fun x _ _ => by
        by_cases z : G y = x
        · rw [if_pos z, if_pos z.symm]
        · rw [if_neg z, if_neg (fun q => z q.symm)]
      rw [e3, sm_single, if_pos (by omega)]
    rw [e2, sm_one]; omega
  have sM := sm_mul (fun x => decide (G x = x)) M n.toNat
  have le : ∀ r : Int, 0 ≤ r → r < n.toNat → cnt (fun y => decide (G y = r)) n.toNat ≤ if decide (G r = r) = true then M else 0 := fun r r0 r1 => by
    by_cases z : G r = r
    · rw [if_pos (decide_eq_true z)]
      have := hM r r0 (by omega)
      rwa [z] at this
    · rw [if_neg (by simpa using z)]
      have : cnt (fun y => decide (G y = r)) n.toNat = cnt (fun _ => false) n.toNat := cnt_congr fun y y0 y1 => decide_eq_false fun q => z (by rw [← q]; exact (gg y y0 (by omega)).2.2)
      rw [this, sm_cnt]
      have e : sm (fun _ => if false = true then 1 else 0) n.toNat = sm (fun _ => 0) n.toNat := rfl
      rw [e, sm_zero]; exact Int.le_refl 0
  have sl := sm_le le
  constructor
  · intro h
    rw [← sM]
    refine Eq.trans ?_ tot
    refine (sm_congr fun r r0 r1 => ?_).symm
    by_cases z : G r = r
    · rw [if_pos (decide_eq_true z)]
      have := h r r0 (by omega)
      rwa [z] at this
    · have := le r r0 r1
      have nn := (cnt_nn (fun y => decide (G y = r)) n.toNat).1
      rw [if_neg (by simpa using z)] at this ⊢
      omega
  · intro h x x0 x1
    have := sl.2 (by rw [sM, h, tot]) (G x) (gg x x0 x1).1 (by have := (gg x x0 x1).2.1; omega)
    rw [if_pos (decide_eq_true (gg x x0 x1).2.2)] at this
    exact this
theorem cnt_img {f : Nat → Int} : ∀ (M : Nat) (p : Int → Bool) (k : Nat), (∀ y : Int, 0 ≤ y → y < k → p y = true → ∃ j, j < M ∧ f j = y) → cnt p k ≤ M
  | 0, p, k, h => by
    have : cnt p k = cnt (fun _ => false) k := cnt_congr fun y y0 y1 => by
      cases q : p y with
      | false => rfl
      | true => obtain ⟨j, j1, -⟩ := h y y0 y1 q; omega
    rw [this, sm_cnt]
    have e : sm (fun _ => if false = true then 1 else 0) k = sm (fun _ => 0) k := rfl
    rw [e, sm_zero]; exact Int.le_refl 0
  | M + 1, p, k, h => by
    have ih := cnt_img M (fun y => p y && !decide (y = f M)) k fun y y0 y1 q => by
      rw [Bool.and_eq_true] at q
      obtain ⟨j, j1, j2⟩ := h y y0 y1 q.1
      refine ⟨j, ?_, j2⟩
      rcases Nat.lt_or_ge j M with z | z
      · exact z
      · have : j = M := by omega
        subst this
        have := q.2
        rw [j2] at this
        simp at this
    have : cnt p k ≤ cnt (fun y => p y && !decide (y = f M)) k + sm (fun y => if y = f M then 1 else 0) k := by
      rw [sm_cnt p, sm_cnt, ← sm_add]
      refine (sm_le fun y _ _ => ?_).1
      cases p y <;> by_cases z : y = f M <;> simp [z]
    rw [sm_single] at this
    split at this <;> omega
