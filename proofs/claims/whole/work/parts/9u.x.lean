/-! a text's place; numbers of a roll, in both -/
theorem ifLe {a b : Int} {X Y : Rs} (h : -2147483648 ≤ a ∧ a < 2147483648) (h' : -2147483648 ≤ b ∧ b < 2147483648) : (if zI a < zI b then X else Y) = if a < b then X else Y := by simp only [zI_le h h']
theorem ifEq {a b : Int} {X Y : Rs} (h : -2147483648 ≤ a ∧ a < 2147483648) (h' : -2147483648 ≤ b ∧ b < 2147483648) : (if zI a = zI b then X else Y) = if a = b then X else Y := by simp only [zI_eq h h']
theorem if0z {X Y : Rs} : (if zI 0 = (0 : Int32) then X else Y) = X := if_pos zI_0.symm
theorem if1z {X Y : Rs} : (if zI 1 = (0 : Int32) then X else Y) = Y := if_neg (by decide)
theorem ifBz {p : Prop} [Decidable p] {X Y : Rs} : (if bz (decide p) = (0 : Int32) then X else Y) = if p then Y else X := by
  by_cases h : p
  · rw [decide_eq_true h, bz_tt, if1z, if_pos h]
  · rw [decide_eq_false h, bz_ff, if0z, if_neg h]
def chA (n : Int) (T : Int → Int) (pl : Int) : Int := if pl < n then T pl else -1
def TX (n : Int) (T : Int → Int) : Prop := 0 ≤ n ∧ n ≤ 260 ∧ ∀ j, 0 ≤ j → j < n → 0 ≤ T j ∧ T j < 256
theorem TX.ch {n : Int} {T : Int → Int} (h : TX n T) {pl : Int} (p0 : 0 ≤ pl) : -1 ≤ chA n T pl ∧ chA n T pl < 256 ∧ (0 ≤ chA n T pl → pl < n) := by
  unfold chA
  by_cases q : pl < n
  · rw [if_pos q]; have := h.2.2 pl p0 q; omega
  · rw [if_neg q]; omega
def CP (n : Int) (T : Int → Int) (pl : Int) (σ : Sg) : Prop := CT 0 n T σ ∧ σ.1 5 4 = zI pl
def MP (n : Int) (T : Int → Int) (pl : Int) (τ : Sg) : Prop := MT 0 n T τ ∧ τ.1 102 8 = zI pl ∧ τ.1 102 9 = zI n
theorem CP.now {n pl : Int} {T : Int → Int} {σ : Sg} (h : CP n T pl σ) (hx : TX n T) (p0 : 0 ≤ pl) (p1 : pl ≤ n) {d : Nat} : f_Tape_now (d + 1) σ = rI (zI (chA n T pl)) σ := nowE_sp h.1 h.2 hx.2.1 p0 p1
theorem MP.here {n pl : Int} {T : Int → Int} {τ : Sg} (h : MP n T pl τ) (hx : TX n T) (p0 : 0 ≤ pl) (p1 : pl ≤ n) {d : Nat} : f_M_here (d + 1) τ = rI (zI (chA n T pl)) τ :=
  here_sp (d := d) (i := pl) (f := 0) h.1 (by rw [Int.zero_add]; exact h.2.1) (by rw [Int.zero_add]; exact h.2.2) (by decide) (by have := hx.2.1; omega) p0 p1
theorem CP.fr {n pl pl' : Int} {T : Int → Int} {σ σ' : Sg} {S : Nat → Nat → Bool} (h : CP n T pl σ) (F : Fr S σ σ') (q2 : S 5 2 = false) (q3 : S 5 3 = false) (q6 : ∀ k, S 6 k = false) (e : σ'.1 5 4 = zI pl') : CP n T pl' σ' := ⟨⟨(F.2 _ _ q2).trans h.1.1, (F.2 _ _ q3).trans h.1.2.1, fun j j0 j1 => (F.2 _ _ (q6 _)).trans (h.1.2.2 j j0 j1)⟩, e⟩
theorem MP.fr {n pl pl' : Int} {T : Int → Int} {τ τ' : Sg} {S : Nat → Nat → Bool} (h : MP n T pl τ) (F : Fr S τ τ') (q9 : S 102 9 = false) (q8 : ∀ k, S 108 k = false) (e : τ'.1 102 8 = zI pl') : MP n T pl' τ' := ⟨fun j j0 j1 => by rw [F.2 _ _ (q8 _)]; exact h.1 j j0 j1, e, (F.2 _ _ q9).trans h.2.2⟩
theorem CP.up {n pl : Int} {T : Int → Int} {σ : Sg} (h : CP n T pl σ) (v : Int) : CP n T v (sI σ 5 4 (zI v)) := h.fr (S := fun a k => a == 5 && k == 4) ((Fr.rf _ σ).sI _ rfl) rfl rfl (fun _ => rfl) (sI_same _ _ _ _)
theorem MP.up {n pl : Int} {T : Int → Int} {τ : Sg} (h : MP n T pl τ) (v : Int) : MP n T v (sI τ 102 8 (zI v)) := h.fr (S := fun a k => a == 102 && k == 8) ((Fr.rf _ τ).sI _ rfl) rfl (fun _ => rfl) (sI_same _ _ _ _)
theorem CP.nx {n pl : Int} {T : Int → Int} {σ : Sg} (h : CP n T pl σ) : σ.1 5 4 + 1 = zI (pl + 1) := by rw [h.2, show (1 : Int32) = zI 1 from zI_lit 1, zI_add]
theorem MP.nx {n pl : Int} {T : Int → Int} {τ : Sg} (h : MP n T pl τ) : τ.1 102 8 + 1 = zI (pl + 1) := by rw [h.2.1, show (1 : Int32) = zI 1 from zI_lit 1, zI_add]
theorem isDig_sp {c : Int} (c0 : -1 ≤ c) (c1 : c < 256) {d : Nat} {σ : Sg} : f_N_isDigit (d + 1) (zI c) σ = rI (bz (decide (48 ≤ c ∧ c ≤ 57))) σ := by
  rw [f_N_isDigit_eq, show (48 : Int32) = zI 48 from zI_lit 48, show (57 : Int32) = zI 57 from zI_lit 57, ifLe (by omega) (by decide)]
  by_cases q : c < 48
  · rw [if_pos q, decide_eq_false (by omega)]; rfl
  · rw [if_neg q, ifLe (by decide) (by omega)]
    by_cases q2 : 57 < c
    · rw [if_pos q2, decide_eq_false (by omega)]; rfl
    · rw [if_neg q2, decide_eq_true (by omega)]; rfl
theorem MP.dig {n pl : Int} {T : Int → Int} {τ : Sg} (h : MP n T pl τ) (hx : TX n T) (p0 : 0 ≤ pl) (p1 : pl ≤ n) {d : Nat} : f_M_isDigit (d + 2) τ = rI (bz (decide (48 ≤ chA n T pl ∧ chA n T pl ≤ 57))) τ := by
  obtain ⟨c0, c1, -⟩ := hx.ch p0
  rw [f_M_isDigit_eq, h.here hx p0 p1, cI_rI, show (48 : Int32) = zI 48 from zI_lit 48, ifLe (by omega) (by decide)]
  by_cases q : chA n T pl < 48
  · rw [if_pos q, decide_eq_false (by omega)]; rfl
  · rw [if_neg q, h.here hx p0 p1, cI_rI, show (57 : Int32) = zI 57 from zI_lit 57, ifLe (by decide) (by omega)]
    by_cases q2 : 57 < chA n T pl
    · rw [if_pos q2, decide_eq_false (by omega)]; rfl
    · rw [if_neg q2, decide_eq_true (by omega)]; rfl
theorem rn12 {n pl m u f : Int} {T : Int → Int} {σ : Sg} {P : Nat} (hP : isP P) (h : CP n T pl σ) (hx : TX n T) (p0 : 0 ≤ pl) (p1 : pl ≤ n) (f0 : 0 ≤ f) (f1 : f ≤ pl) (m0 : 0 ≤ m) (m24 : m ≤ 24) (u0 : 0 ≤ u) (u1 : u ≤ 999) (e0 : σ.1 P 0 = zI m) (eu : σ.1 P 10 = zI u) {i : Int} (i0 : 0 ≤ i) (i2 : i ≤ 2) {d : Nat} :
    f_Roll_readNumber_12 (d + 1) P (zI f) (zI i) σ = if 48 ≤ chA n T pl ∧ chA n T pl ≤ 57 then (if i = 2 then rI (zI (-2000 - pl)) σ else f_Roll_readNumber_12 (d + 1) P (zI f) (zI (i + 1)) (sI (sI σ P 10 (zI (10 * u + chA n T pl - 48))) 5 4 (zI (pl + 1)))) else if pl = f then rI (zI (-1000 - pl)) σ else if u < m then rI (zI 0) σ else rI (zI (-3000 - f)) σ := by
  obtain ⟨c0, c1, -⟩ := hx.ch p0
  have n260 := hx.2.1
  have ne : (5 : Nat) ≠ P := by rcases hP with rfl | rfl <;> decide
  rw [f_Roll_readNumber_12_eq, show (3 : Int32) = zI 3 from zI_lit 3, if_pos (by rw [zI_le (by omega) (by decide)]; omega), h.now hx p0 p1, cI_rI, isDig_sp c0 c1, cI_rI]
  by_cases q : 48 ≤ chA n T pl ∧ chA n T pl ≤ 57
  · rw [decide_eq_true q, bz_tt, if1z, if_pos q, show (2 : Int32) = zI 2 from zI_lit 2, ifEq (by omega) (by decide)]
    by_cases q2 : i = 2
    · rw [if_pos q2, if_pos q2, tfaultZ h.2, cI_rI]; rfl
    · rw [if_neg q2, if_neg q2, gfI_of hP.s0, h.now hx p0 p1, cI_rI, eu, show (10 : Int32) = zI 10 from zI_lit 10, zI_mul, zI_add, show (48 : Int32) = zI 48 from zI_lit 48, zI_sub, pfI_of hP.s0]
      dsimp only
      rw [sI_row _ _ _ _ _ ne, h.nx, show (1 : Int32) = zI 1 from zI_lit 1, zI_add]
  · rw [decide_eq_false q, bz_ff, if0z, if_neg q, h.2, ifEq (by omega) (by omega)]
    by_cases q2 : pl = f
    · rw [if_pos q2, if_pos q2, show (1 : Int32) = zI 1 from zI_lit 1, tfaultZ h.2, cI_rI]; rfl
    · rw [if_neg q2, if_neg q2, gfI_of hP.s0, gfI_of hP.s0, eu, e0, ifLe (by omega) (by omega)]
      by_cases q3 : u < m
      · rw [if_pos q3, if_pos q3]; rfl
      · rw [if_neg q3, if_neg q3, nfault_sp, cI_rI]; rfl
theorem rl27 {n pl m u f : Int} {T : Int → Int} {τ : Sg} (h : MP n T pl τ) (hx : TX n T) (p0 : 0 ≤ pl) (p1 : pl ≤ n) (f0 : 0 ≤ f) (f1 : f ≤ pl) (m0 : 0 ≤ m) (m24 : m ≤ 24) (u0 : 0 ≤ u) (u1 : u ≤ 999) (e0 : τ.1 102 70 = zI m) (eu : τ.1 102 11 = zI u) {d : Nat} :
    f_M_readsLower_27 (d + 2) (zI f) τ = if 48 ≤ chA n T pl ∧ chA n T pl ≤ 57 then (if pl = f + 2 then rI (zI 0) (sI τ 102 10 (zI (-2000 - pl))) else f_M_readsLower_27 (d + 2) (zI f) (sI (sI τ 102 11 (zI (10 * u + chA n T pl - 48))) 102 8 (zI (pl + 1)))) else if u < m then rI (zI 1) τ else rI (zI 0) (sI τ 102 10 (zI (-3000 - f))) := by
  obtain ⟨c0, c1, -⟩ := hx.ch p0
  have n260 := hx.2.1
  rw [f_M_readsLower_27_eq, h.dig hx p0 p1, cI_rI]
  by_cases q : 48 ≤ chA n T pl ∧ chA n T pl ≤ 57
  · rw [decide_eq_true q, bz_tt, if1z, if_pos q, h.2.1, show (2 : Int32) = zI 2 from zI_lit 2, zI_add, ifEq (by omega) (by omega)]
    by_cases q2 : pl = f + 2
    · rw [if_pos q2, if_pos q2, wrongAt_sp, cI_rI, rZ_z0]; rfl
    · rw [if_neg q2, if_neg q2, h.here hx p0 p1, cI_rI, eu, show (10 : Int32) = zI 10 from zI_lit 10, zI_mul, zI_add, show (48 : Int32) = zI 48 from zI_lit 48, zI_sub]
      dsimp only
      rw [sI_slot _ _ _ _ (by decide), h.nx]
  · rw [decide_eq_false q, bz_ff, if0z, if_neg q, eu, e0, ifLe (by omega) (by omega)]
    by_cases q3 : u < m
    · rw [if_pos q3, if_pos q3]; rfl
    · rw [if_neg q3, if_neg q3, show (3 : Int32) = zI 3 from zI_lit 3, wrongAt_sp, cI_rI, if0z]; rfl
def SRn (P a k : Nat) : Bool := (a == P && k == 10) || (a == 5 && k == 4)
def SMn (a k : Nat) : Bool := a == 102 && (k == 8 || k == 10 || k == 11)
theorem numGo {n f m : Int} {T : Int → Int} {P : Nat} (hP : isP P) (hx : TX n T) (f0 : 0 ≤ f) (m0 : 0 ≤ m) (m24 : m ≤ 24) (d d2 : Nat) (hd : 48 ≤ chA n T f ∧ chA n T f ≤ 57) : ∀ (b : Nat) (i u : Int), i + b = 2 → 0 ≤ i → f + i ≤ n → 0 ≤ u → (i = 0 ∧ u = 0 ∨ i = 1 ∧ u ≤ 9 ∨ i = 2 ∧ u ≤ 99) → ∃ v u' pl' : Int, -10000 < v ∧ v ≤ 0 ∧ (v = 0 → 0 ≤ u' ∧ u' < m ∧ f < pl' ∧ pl' ≤ n) ∧
    (∀ σ, CP n T (f + i) σ → σ.1 P 0 = zI m → σ.1 P 10 = zI u → ∃ σ', f_Roll_readNumber_12 (d + 1) P (zI f) (zI i) σ = rI (zI v) σ' ∧ Fr (SRn P) σ σ' ∧ (v = 0 → σ'.1 P 10 = zI u' ∧ σ'.1 5 4 = zI pl')) ∧
    (∀ τ, MP n T (f + i) τ → τ.1 102 70 = zI m → τ.1 102 11 = zI u → ∃ τ', f_M_readsLower_27 (d2 + 2) (zI f) τ = rI (bz (decide (v = 0))) τ' ∧ Fr SMn τ τ' ∧ (v < 0 → τ'.1 102 10 = zI v) ∧ (v = 0 → τ'.1 102 11 = zI u' ∧ τ'.1 102 8 = zI pl')) := by
  have n260 := hx.2.1
  have ne : (5 : Nat) ≠ P := by rcases hP with rfl | rfl <;> decide
  have hz : bz (decide ((0 : Int) = 0)) = zI 1 := rfl
  have hn : ∀ v : Int, v < 0 → bz (decide (v = 0)) = zI 0 := fun v h => by rw [decide_eq_false (by omega)]; rfl
  have non : ∀ i u : Int, 1 ≤ i → f + i ≤ n → 0 ≤ u → u ≤ 99 → ¬ (48 ≤ chA n T (f + i) ∧ chA n T (f + i) ≤ 57) → i ≤ 2 → ∃ v u' pl' : Int, -10000 < v ∧ v ≤ 0 ∧ (v = 0 → 0 ≤ u' ∧ u' < m ∧ f < pl' ∧ pl' ≤ n) ∧
    (∀ σ, CP n T (f + i) σ → σ.1 P 0 = zI m → σ.1 P 10 = zI u → ∃ σ', f_Roll_readNumber_12 (d + 1) P (zI f) (zI i) σ = rI (zI v) σ' ∧ Fr (SRn P) σ σ' ∧ (v = 0 → σ'.1 P 10 = zI u' ∧ σ'.1 5 4 = zI pl')) ∧
    (∀ τ, MP n T (f + i) τ → τ.1 102 70 = zI m → τ.1 102 11 = zI u → ∃ τ', f_M_readsLower_27 (d2 + 2) (zI f) τ = rI (bz (decide (v = 0))) τ' ∧ Fr SMn τ τ' ∧ (v < 0 → τ'.1 102 10 = zI v) ∧ (v = 0 → τ'.1 102 11 = zI u' ∧ τ'.1 102 8 = zI pl')) := by
    intro i u i1 i2 u0 u9 q i3
    by_cases w : u < m
    · refine ⟨0, u, f + i, by omega, by omega, fun _ => ⟨u0, w, by omega, i2⟩, fun σ h e eu => ⟨σ, ?_, Fr.rf _ _, fun _ => ⟨eu, h.2⟩⟩, fun τ h e eu => ⟨τ, ?_, Fr.rf _ _, fun z => by omega, fun _ => ⟨eu, h.2.1⟩⟩⟩
      · rw [rn12 hP h hx (by omega) i2 f0 (by omega) m0 m24 u0 (by omega) e eu (by omega) i3, if_neg q, if_neg (by omega), if_pos w]
      · rw [rl27 h hx (by omega) i2 f0 (by omega) m0 m24 u0 (by omega) e eu, if_neg q, if_pos w, hz]
    · refine ⟨-3000 - f, 0, 0, by omega, by omega, fun z => by omega, fun σ h e eu => ⟨σ, ?_, Fr.rf _ _, fun z => by omega⟩, fun τ h e eu => ⟨sI τ 102 10 (zI (-3000 - f)), ?_, (Fr.rf _ τ).sI _ rfl, fun z => sI_same _ _ _ _, fun z => by omega⟩⟩
      · rw [rn12 hP h hx (by omega) i2 f0 (by omega) m0 m24 u0 (by omega) e eu (by omega) i3, if_neg q, if_neg (by omega), if_neg w]
      · rw [rl27 h hx (by omega) i2 f0 (by omega) m0 m24 u0 (by omega) e eu, if_neg q, if_neg w, hn _ (by omega)]
  intro b
  induction b with
  | zero =>
    intro i u hi i0 i2 u0 u1
    have : i = 2 := by omega
    subst this
    by_cases q : 48 ≤ chA n T (f + 2) ∧ chA n T (f + 2) ≤ 57
    · refine ⟨-2000 - (f + 2), 0, 0, by omega, by omega, fun z => by omega, fun σ h e eu => ⟨σ, ?_, Fr.rf _ _, fun z => by omega⟩, fun τ h e eu => ⟨sI τ 102 10 (zI (-2000 - (f + 2))), ?_, (Fr.rf _ τ).sI _ rfl, fun z => sI_same _ _ _ _, fun z => by omega⟩⟩
      · rw [rn12 hP h hx (by omega) i2 f0 (by omega) m0 m24 u0 (by omega) e eu (by omega) (by omega), if_pos q, if_pos rfl]
      · rw [rl27 h hx (by omega) i2 f0 (by omega) m0 m24 u0 (by omega) e eu, if_pos q, if_pos rfl, hn _ (by omega)]
    · exact non 2 u (by omega) i2 u0 (by omega) q (by omega)
  | succ b ih =>
    intro i u hi i0 i2 u0 u1
    by_cases q : 48 ≤ chA n T (f + i) ∧ chA n T (f + i) ≤ 57
    · have p1 := (hx.ch (show 0 ≤ f + i by omega)).2.2 (by omega)
      obtain ⟨v, u', pl', b1, b2, b3, hN, hM⟩ := ih (i + 1) (10 * u + chA n T (f + i) - 48) (by omega) (by omega) (by omega) (by omega) (by omega)
      refine ⟨v, u', pl', b1, b2, b3, fun σ h e eu => ?_, fun τ h e eu => ?_⟩
      · have F1 : Fr (SRn P) σ (sI (sI σ P 10 (zI (10 * u + chA n T (f + i) - 48))) 5 4 (zI (f + i + 1))) := ((Fr.rf _ σ).sI _ (by simp [SRn])).sI _ (by simp [SRn])
        obtain ⟨σ', a1, a2, a3⟩ := hN (sI (sI σ P 10 (zI (10 * u + chA n T (f + i) - 48))) 5 4 (zI (f + i + 1))) (h.fr F1 (by rcases hP with rfl | rfl <;> rfl) (by rcases hP with rfl | rfl <;> rfl) (fun k => by rcases hP with rfl | rfl <;> rfl) ((sI_same _ _ _ _).trans (congrArg zI (by omega)))) ((sI_row _ _ _ _ _ ne.symm).trans ((sI_slot _ _ _ _ (by decide)).trans e)) ((sI_row _ _ _ _ _ ne.symm).trans (sI_same _ _ _ _))
        refine ⟨σ', ?_, F1.tr a2, a3⟩
        rw [rn12 hP h hx (by omega) i2 f0 (by omega) m0 m24 u0 (by omega) e eu (by omega) (by omega), if_pos q, if_neg (by omega)]
        exact a1
      · have F1 : Fr SMn τ (sI (sI τ 102 11 (zI (10 * u + chA n T (f + i) - 48))) 102 8 (zI (f + i + 1))) := ((Fr.rf _ τ).sI _ rfl).sI _ rfl
        obtain ⟨τ', a1, a2, a3⟩ := hM (sI (sI τ 102 11 (zI (10 * u + chA n T (f + i) - 48))) 102 8 (zI (f + i + 1))) (h.fr F1 rfl (fun _ => rfl) ((sI_same _ _ _ _).trans (congrArg zI (by omega)))) ((sI_slot _ _ _ _ (by decide)).trans ((sI_slot _ _ _ _ (by decide)).trans e)) ((sI_slot _ _ _ _ (by decide)).trans (sI_same _ _ _ _))
        refine ⟨τ', ?_, F1.tr a2, a3⟩
        rw [rl27 h hx (by omega) i2 f0 (by omega) m0 m24 u0 (by omega) e eu, if_pos q, if_neg (by omega)]
        exact a1
    · have i1 : 1 ≤ i := by
        by_cases z : i = 0
        · subst z; rw [Int.add_zero] at q; exact absurd hd q
        · omega
      exact non i u i1 i2 u0 (by omega) q (by omega)
theorem numBoth {n pl m : Int} {T : Int → Int} {P : Nat} (hP : isP P) (hx : TX n T) (p0 : 0 ≤ pl) (p1 : pl ≤ n) (m0 : 0 ≤ m) (m24 : m ≤ 24) (d d2 : Nat) : ∃ v u pl' : Int, -10000 < v ∧ v ≤ 0 ∧ (v = 0 → 0 ≤ u ∧ u < m ∧ pl < pl' ∧ pl' ≤ n) ∧
    (∀ σ, CP n T pl σ → σ.1 P 0 = zI m → ∃ σ', f_Roll_readNumber (d + 2) P σ = rI (zI v) σ' ∧ Fr (SRn P) σ σ' ∧ (v = 0 → σ'.1 P 10 = zI u ∧ σ'.1 5 4 = zI pl')) ∧
    (∀ τ, MP n T pl τ → τ.1 102 70 = zI m → ∃ τ', f_M_readsLower (d2 + 3) τ = rI (bz (decide (v = 0))) τ' ∧ Fr SMn τ τ' ∧ (v < 0 → τ'.1 102 10 = zI v) ∧ (v = 0 → τ'.1 102 11 = zI u ∧ τ'.1 102 8 = zI pl')) := by
  have n260 := hx.2.1
  have ne : (5 : Nat) ≠ P := by rcases hP with rfl | rfl <;> decide
  have z1 : ∀ σ : Sg, CP n T pl σ → CP n T pl (sI σ P 10 (zI 0)) := fun σ h => h.fr (S := SRn P) ((Fr.rf _ σ).sI _ (by simp [SRn])) (by rcases hP with rfl | rfl <;> rfl) (by rcases hP with rfl | rfl <;> rfl) (fun k => by rcases hP with rfl | rfl <;> rfl) ((sI_row _ _ _ _ _ ne).trans h.2)
  by_cases q : 48 ≤ chA n T pl ∧ chA n T pl ≤ 57
  · obtain ⟨v, u', pl', b1, b2, b3, hN, hM⟩ := numGo hP hx p0 m0 m24 d d2 q 2 0 0 (by decide) (by decide) (by omega) (by decide) (Or.inl ⟨rfl, rfl⟩)
    refine ⟨v, u', pl', b1, b2, b3, fun σ h e => ?_, fun τ h e => ?_⟩
    · obtain ⟨σ', a1, a2, a3⟩ := hN (sI σ P 10 (zI 0)) (by rw [Int.add_zero]; exact z1 σ h) ((sI_slot _ _ _ _ (by decide)).trans e) (sI_same _ _ _ _)
      refine ⟨σ', ?_, ((Fr.rf _ σ).sI _ (by simp [SRn])).tr a2, a3⟩
      rw [f_Roll_readNumber_eq, zI_0, pfI_of hP.s0, h.2]
      exact a1
    · obtain ⟨τ', a1, a2, a3⟩ := hM (sI τ 102 11 (zI 0)) (by rw [Int.add_zero]; exact h.fr (S := SMn) ((Fr.rf _ τ).sI _ rfl) rfl (fun _ => rfl) ((sI_slot _ _ _ _ (by decide)).trans h.2.1)) ((sI_slot _ _ _ _ (by decide)).trans e) (sI_same _ _ _ _)
      refine ⟨τ', ?_, ((Fr.rf _ τ).sI _ rfl).tr a2, a3⟩
      rw [f_M_readsLower_eq, h.dig hx p0 p1, cI_rI, decide_eq_true q, bz_tt, if1z, h.2.1, zI_0]
      exact a1
  · refine ⟨-1000 - pl, 0, 0, by omega, by omega, fun z => by omega, fun σ h e => ⟨sI σ P 10 (zI 0), ?_, (Fr.rf _ σ).sI _ (by simp [SRn]), fun z => by omega⟩, fun τ h e => ⟨sI τ 102 10 (zI (-1000 - pl)), ?_, (Fr.rf _ τ).sI _ rfl, fun _ => sI_same _ _ _ _, fun z => by omega⟩⟩
    · rw [f_Roll_readNumber_eq, zI_0, pfI_of hP.s0, h.2, rn12 (u := 0) hP (z1 σ h) hx p0 p1 p0 (Int.le_refl _) m0 m24 (by decide) (by decide) ((sI_slot _ _ _ _ (by decide)).trans e) (sI_same _ _ _ _) (by decide) (by decide), if_neg q, if_pos rfl]
    · rw [f_M_readsLower_eq, h.dig hx p0 p1, cI_rI, decide_eq_false q, bz_ff, if0z, h.2.1, show (1 : Int32) = zI 1 from zI_lit 1, wrongAt_sp, cI_rI, rZ_z0, decide_eq_false (by omega)]
      rfl
