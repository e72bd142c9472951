/-! the walk -/
/-- led on by step k from T to level j -/
def hits (m : Int) (f : Int → Int → Int32) (q : Int) (T : Int32) (j : Nat) (k y : Int) : Prop := (∃ e, 0 ≤ e ∧ e < m ∧ gb T e = true ∧ gb (f k e) y = true) ∧ lyr m f q j y
def lst (m : Int) (f : Int → Int → Int32) (q : Int) (T : Int32) (j : Nat) (k : Int) (T' : Int32) : Prop := 0 ≤ k ∧ k < 8 ∧ (∀ y, 0 ≤ y → y < 32 → (gb T' y = true ↔ hits m f q T j k y)) ∧ (∃ y, 0 ≤ y ∧ y < 32 ∧ hits m f q T j k y) ∧ ∀ k', 0 ≤ k' → k' < k → ∀ y, 0 ≤ y → y < 32 → ¬ hits m f q T j k' y
def good (m : Int) (f : Int → Int → Int32) (q : Int) (j : Nat) (T : Int32) : Prop := (∀ y, 0 ≤ y → y < 32 → gb T y = true → lyr m f q j y) ∧ ∃ y, 0 ≤ y ∧ y < 32 ∧ gb T y = true
def WK (m : Int) (f : Int → Int → Int32) (q : Int) (w : Int → Int) : Nat → Int32 → Int → Prop
  | 0, _, _ => True
  | j + 1, T, i => ∃ T', lst m f q T j (w i) T' ∧ WK m f q w j T' (i + 1)
theorem WK_ext {m : Int} {f : Int → Int → Int32} {q : Int} {w w' : Int → Int} : ∀ {j : Nat} {T : Int32} {i : Int}, (∀ x, i ≤ x → x < i + j → w' x = w x) → WK m f q w j T i → WK m f q w' j T i
  | 0, _, _, _, _ => trivial
  | j + 1, T, i, e, ⟨T', h, h'⟩ => ⟨T', by rw [e i (by omega) (by omega)]; exact h, WK_ext (fun x x0 x1 => e x (by omega) (by omega)) h'⟩
theorem lst_good {m : Int} {f : Int → Int → Int32} {q : Int} {T T' : Int32} {j : Nat} {k : Int} (h : lst m f q T j k T') : good m f q j T' := ⟨fun y y0 y1 g => ((h.2.2.1 y y0 y1).mp g).2, by
  obtain ⟨y, y0, y1, g⟩ := h.2.2.2.1
  exact ⟨y, y0, y1, (h.2.2.1 y y0 y1).mpr g⟩⟩
theorem good_hits {m : Int} {f : Int → Int → Int32} {q : Int} (q0 : 0 ≤ q) (q1 : q < m) (m24 : m ≤ 24) (sy : ∀ x y, 0 ≤ x → x < m → 0 ≤ y → y < m → adj f x y → adj f y x) {j : Nat} {T : Int32} (h : good m f q (j + 1) T) : ∃ k y, 0 ≤ k ∧ k < 8 ∧ 0 ≤ y ∧ y < 32 ∧ hits m f q T j k y := by
  obtain ⟨x, x0, x1, g⟩ := h.2
  have hx := h.1 x x0 x1 g
  have xr := ball_rng q0 q1 (lyr_ball hx)
  obtain ⟨⟨y, hy, a⟩, -⟩ := (lyr_next x0 xr.2).mp hx
  have yr := ball_rng q0 q1 (lyr_ball hy)
  obtain ⟨k, k0, k1, b⟩ := sy y x yr.1 yr.2 xr.1 xr.2 a
  exact ⟨k, y, k0, k1, yr.1, by omega, ⟨x, x0, xr.2, g, b⟩, hy⟩
def SW (a _k : Nat) : Bool := a == 62
theorem SW_D {r p : Nat} (hr : isR r) (hp : isP p) : ∀ a k, DRoll r p a k = true → SW a k = false := by
  intro a k h
  unfold SW
  rw [beq_eq_false_iff_ne]
  rintro rfl
  rcases hr with rfl | rfl <;> rcases hp with rfl | rfl <;> simp [DRoll] at h
theorem leastStep_sp {σ : Sg} {r p : Nat} (h : IRoll r p σ) (hp : isP p) (n6 : rd σ r 0 ≤ 6) {d : Nat} {q i : Int} {T : Int32} {j : Nat} (i0 : 0 ≤ i) (i1 : i < 24) (j24 : j < 24) (sz : rd σ 61 0 = i + j + 1)
    (far : ∀ y, 0 ≤ y → y < 32 → (gb (σ.1 66 j) y = true ↔ lyr (rd σ p 0) (relF σ p) q j y)) (ex : ∃ k y, 0 ≤ k ∧ k < 8 ∧ 0 ≤ y ∧ y < 32 ∧ hits (rd σ p 0) (relF σ p) q T j k y) :
    ∃ (k : Int) (T' : Int32), f_Row_leastStep (d + 4) p T (zI i) σ = rI T' (sI σ 62 i.toNat (zI k)) ∧ lst (rd σ p 0) (relF σ p) q T j k T' := by
  have e0 : σ.1 61 0 = zI (i + j + 1) := (rd_k σ 61 0).trans (congrArg zI sz)
  rw [f_Row_leastStep_eq, e0, show (1 : Int32) = zI 1 from zI_lit 1, zI_sub, zI_sub, show i + (j : Int) + 1 - i - 1 = j by omega, bnd_zI (by omega) (by omega) (by omega), ix_zI (by omega) (by omega), show ((j : Int)).toNat = j by omega, zI_0]
  have A : ∀ k s, 0 ≤ k → k < 8 → relU σ p (rd σ p 0) k T s → ∀ y, 0 ≤ y → y < 32 → (gb (s &&& σ.1 66 j) y = true ↔ hits (rd σ p 0) (relF σ p) q T j k y) := fun k s k0 k1 hs y y0 y1 => by
    rw [gb_and, Bool.and_eq_true, hs y y0 y1, far y y0 y1]; rfl
  have main : ∀ (n : Nat) (k : Int) (v : Value), k + n = 8 → 0 ≤ k → (∀ k', 0 ≤ k' → k' < k → ∀ y, 0 ≤ y → y < 32 → ¬ hits (rd σ p 0) (relF σ p) q T j k' y) → ∃ (u : Int) (T' : Int32), f_Row_leastStep_18 (d + 3) p T (zI i) (σ.1 66 j) (zI k) v σ = rI T' (sI σ 62 i.toNat (zI u)) ∧ lst (rd σ p 0) (relF σ p) q T j u T' := by
    intro n
    induction n with
    | zero =>
      intro k v hk k0 no
      obtain ⟨k', y, a, b, c, e, g⟩ := ex
      exact absurd g (no k' a (by omega) y c e)
    | succ n ih =>
      intro k v hk k0 no
      obtain ⟨s, es, hs⟩ := relAny_sp h hp n6 (d := d) (k := k) k0 (by omega) T
      have hA := A k s k0 (by omega) hs
      rw [f_Row_leastStep_18_eq, show (8 : Int32) = zI 8 from zI_lit 8, if_pos (by rw [zI_le (by omega) (by omega)]; omega), gdK_of hp.s0, es, cI_rI, zI_0]
      by_cases z : s &&& σ.1 66 j = zI 0
      · rw [if_pos z, show (1 : Int32) = zI 1 from zI_lit 1, zI_add]
        refine ih (k + 1) _ (by omega) (by omega) fun k' a b y y0 y1 g => ?_
        by_cases e : k' = k
        · subst e
          have := (hA y y0 y1).mpr g
          rw [z, gb_0] at this; cases this
        · exact no k' a (by omega) y y0 y1 g
      · rw [if_neg z, bnd_zI (by omega) (by omega) (by omega), ix_zI (by omega) (by omega)]
        refine ⟨k, _, rfl, k0, by omega, hA, ?_, no⟩
        refine Classical.byContradiction fun nn => z (gb_ext fun y y0 y1 => ?_)
        rw [gb_0]
        cases b : gb (s &&& σ.1 66 j) y with
        | false => rfl
        | true => exact absurd ⟨y, y0, y1, (hA y y0 y1).mp b⟩ nn
  exact main 8 0 .null rfl (by decide) fun k' a b => by omega
theorem walkN {r p : Nat} (hr : isR r) (hp : isP p) {d : Nat} {q : Int} {m : Int} {f : Int → Int → Int32} (q0 : 0 ≤ q) (q1 : q < m) (m24 : m ≤ 24) (sy : ∀ x y, 0 ≤ x → x < m → 0 ≤ y → y < m → adj f x y → adj f y x) {s : Int} (s24 : s ≤ 24) : ∀ (j : Nat) (i : Int) (T : Int32) (σ : Sg) (v w : Value), IRoll r p σ → rd σ r 0 ≤ 6 → rd σ p 0 = m → relF σ p = f → rd σ 61 0 = s → i + j = s → 0 ≤ i → (∀ x : Nat, x < j → ∀ y, 0 ≤ y → y < 32 → (gb (σ.1 66 x) y = true ↔ lyr m f q x y)) → good m f q j T →
    ∃ σ', f_Row_findOnPeople_28 (d + 4) p v w T (zI i) σ = rZ 1 σ' ∧ Fr SW σ σ' ∧ (∀ x, 0 ≤ x → x < i → rd σ' 62 x = rd σ 62 x) ∧ WK m f q (rd σ' 62) j T i := by
  intro j
  induction j with
  | zero =>
    intro i T σ v w h n6 em ef es ij i0 far g
    refine ⟨σ, ?_, Fr.rf _ _, fun x x0 x1 => rfl, trivial⟩
    rw [f_Row_findOnPeople_28_eq, (rd_k σ 61 0).trans (congrArg zI es), if_neg (by rw [zI_le (by omega) (by omega)]; omega)]
  | succ j ih =>
    intro i T σ v w h n6 em ef es ij i0 far g
    obtain ⟨k, T', e, hl⟩ := leastStep_sp h hp n6 (d := d) (q := q) (i := i) (T := T) (j := j) i0 (by omega) (by omega) (by omega) (by rw [em, ef]; exact far j (by omega)) (by rw [em, ef]; exact good_hits q0 q1 m24 sy g)
    rw [em, ef] at hl
    have F1 : Fr SW σ (sI σ 62 i.toNat (zI k)) := (Fr.rf _ _).sI _ rfl
    obtain ⟨σ', e', F', lo, hw⟩ := ih (i + 1) T' (sI σ 62 i.toNat (zI k)) v (nlg w) (h.fr F1 (SW_D hr hp)) (by rw [fr_rd F1 (SW_D hr hp _ _ (by simp [DRoll]))]; exact n6) ((fr_rd F1 (SW_D hr hp _ _ (by simp [DRoll]))).trans em) ((relF_fr F1 (SW_D hr hp)).trans ef) ((fr_rd F1 rfl).trans es) (by omega) (by omega) (fun x hx => far x (by omega)) (lst_good hl)
    refine ⟨σ', ?_, F1.tr F', fun x x0 x1 => ?_, T', ?_, hw⟩
    · rw [f_Row_findOnPeople_28_eq, (rd_k σ 61 0).trans (congrArg zI es), if_pos (by rw [zI_le (by omega) (by omega)]; omega), e, cI_rI, show (1 : Int32) = zI 1 from zI_lit 1, zI_add]
      exact e'
    · rw [lo x x0 (by omega), rd_other (Or.inr (by omega))]
    · obtain ⟨a, b, -⟩ := id hl
      rw [lo i i0 (by omega), rd_same rfl (by omega) (by omega)]; exact hl
theorem letterOf_sp {σ : Sg} {d : Nat} {k : Int} (k0 : 0 ≤ k) (k1 : k < 8) : f_M_letterOf (d + 1) (zI k) σ = rI (FC 1 (ix (zI k))) σ := by
  rw [f_M_letterOf_eq]
  rcases k8 k0 k1 with rfl | rfl | rfl | rfl | rfl | rfl | rfl | rfl <;> rfl
theorem walkM {σ : Sg} {r p : Nat} (h : IRoll r p σ) (n6 : rd σ r 0 ≤ 6) {d : Nat} {q a : Int} {w : Int → Int} (q0 : 0 ≤ q) (q1 : q < rd σ p 0) (hL : LV (rd σ p 0) (relF σ p) q 24 (rd σ 153)) (a0 : 0 ≤ a) (a24 : a < 24) : ∀ (j : Nat) (i : Int) (T : Int32) (k : Int) (v1 v2 : Value), j ≤ 24 → 0 ≤ i → i ≤ a + 1 → a < i + j ∨ i = a + 1 → WK (rd σ p 0) (relF σ p) q w j T i → (i = a + 1 → k = w a ∧ 0 ≤ k ∧ k < 8) →
    f_M_whatIs_80 (d + 5) v1 v2 (zI a) (zI j) T (zI k) (zI i) σ = rI (FC 1 (ix (zI (w a)))) σ ∧ 0 ≤ w a ∧ w a < 8 := by
  obtain ⟨m0, m24, -⟩ := id h.1
  have em := h.2.1
  intro j
  induction j with
  | zero =>
    intro i T k v1 v2 j24 i0 ia hh hw hk
    obtain ⟨rfl, k0, k1⟩ := hk (by omega)
    refine ⟨?_, k0, k1⟩
    rw [f_M_whatIs_80_eq, if_pos (by rw [zI_le (by omega) (by omega)]; omega), letterOf_sp k0 k1, cI_rI]
  | succ j ih =>
    intro i T k v1 v2 j24 i0 ia hh hw hk
    by_cases e : i = a + 1
    · obtain ⟨rfl, k0, k1⟩ := hk e
      refine ⟨?_, k0, k1⟩
      rw [f_M_whatIs_80_eq, if_pos (by rw [zI_le (by omega) (by omega)]; omega), letterOf_sp k0 k1, cI_rI]
    · obtain ⟨T', hl, hw'⟩ := hw
      obtain ⟨A, eA, hA⟩ := atLevel_sp em m0 m24 (d := d + 4) (k := (j : Int)) (by omega)
      have lA : ∀ y, 0 ≤ y → y < 32 → (gb A y = true ↔ lyr (rd σ p 0) (relF σ p) q j y) := fun y y0 y1 => by
        rw [hA y y0 y1]
        constructor
        · rintro ⟨y2, c⟩
          rcases hL y y0 y2 with ⟨i, -, il, ic⟩ | ⟨-, c1⟩
          · have : j = i := by omega
            rw [this]; exact il
          · omega
        · intro g
          have yr := ball_rng q0 q1 (lyr_ball g)
          rcases hL y y0 yr.2 with ⟨i, -, il, ic⟩ | ⟨no, -⟩
          · have := lyr_one il g
            exact ⟨yr.2, by omega⟩
          · exact absurd g (no j (by omega))
      have main : ∀ (n : Nat) (k : Int), k + n = w i → 0 ≤ k → f_M_whatIs_95 (d + 5) v1 v2 (zI a) (zI j) T (zI k) (zI i) σ = f_M_whatIs_80 (d + 5) v1 v2 (zI a) (zI j) T' (zI (w i)) (zI (i + 1)) σ := by
        intro n
        induction n with
        | zero =>
          intro k hk k0
          have : k = w i := by omega
          subst this
          obtain ⟨s, es, hs⟩ := allOfP_sp h n6 (d := d + 2) hl.1 hl.2.1 T
          have sA : s &&& A = T' := gb_ext fun y y0 y1 => by
            have a1 := hl.2.2.1 y y0 y1
            have a2 : gb (s &&& A) y = true ↔ hits (rd σ p 0) (relF σ p) q T j (w i) y := by
              rw [gb_and, Bool.and_eq_true, hs y y0 y1, lA y y0 y1]; rfl
            cases b : gb (s &&& A) y <;> cases c : gb T' y
            · rfl
            · rw [b] at a2; exact absurd (a2.mpr (a1.mp c)) Bool.noConfusion
            · rw [c] at a1; exact absurd (a1.mpr (a2.mp b)) Bool.noConfusion
            · rfl
          have nz : ¬ T' = 0 := fun z => by
            obtain ⟨y, y0, y1, g⟩ := (lst_good hl).2
            rw [z, zI_0, gb_0] at g; cases g
          rw [f_M_whatIs_95_eq, es, cI_rI, eA, cI_rI, sA, if_neg nz, es, cI_rI, eA, cI_rI, sA, show (1 : Int32) = zI 1 from zI_lit 1, zI_add]
        | succ n ih' =>
          intro k hk k0
          obtain ⟨s, es, hs⟩ := allOfP_sp h n6 (d := d + 2) (k := k) k0 (by have := hl.2.1; omega) T
          have sA : s &&& A = 0 := by
            rw [zI_0, and_zero]
            rintro y y0 y1 ⟨g1, g2⟩
            exact hl.2.2.2.2 k k0 (by omega) y y0 y1 ⟨(hs y y0 y1).mp g1, (lA y y0 y1).mp g2⟩
          rw [f_M_whatIs_95_eq, es, cI_rI, eA, cI_rI, if_pos sA, show (1 : Int32) = zI 1 from zI_lit 1, zI_add]
          exact ih' (k + 1) (by omega) (by omega)
      obtain ⟨z1, z2⟩ := ih (i + 1) T' (w i) v1 v2 (by omega) (by omega) (by omega) (by omega) hw' fun ei => by
        have : i = a := by omega
        rw [this] at hl
        exact ⟨congrArg w this, this ▸ hl.1, this ▸ hl.2.1⟩
      refine ⟨?_, z2⟩
      rw [f_M_whatIs_80_eq, if_neg (by rw [zI_le (by omega) (by omega)]; omega), show (1 : Int32) = zI 1 from zI_lit 1, zI_sub, show ((j + 1 : Nat) : Int) - 1 = j by omega, zI_0, main (w i).toNat 0 (by have := hl.1; omega) (by decide), z1]
