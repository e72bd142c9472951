/-! how often till each is itself -/
theorem circle_sp {σ : Sg} {a r d : Nat} {n : Int} {W : WS} (ha : isW a) (c : CWo a W σ) (ok : WOk W) (hr : RuleAt σ r n) {s x : Int} (s01 : s = 0 ∨ s = 1) (h0 : 0 ≤ x) (h1 : x < n) {L : Nat} (hL : IsC (fOf σ r W s) n x L) : f_Word_circle (d + 3) a r (zI x) (zI s) σ = rI (zI (L : Int)) σ := by
  have n6 := hr.2.2.1
  have e0 : σ.1 r 0 = zI n := by rw [rd_k]; exact congrArg zI hr.2.1
  obtain ⟨l1, l2, l3, l4⟩ := hL
  have on := fOf_on hr W s
  have main : ∀ (k i : Nat), i + k = L → 1 ≤ i → f_Word_circle_12 (d + 2) a r (zI x) (zI s) (zI (itF (fOf σ r W s) i x)) (zI (i : Int)) σ = rI (zI (L : Int)) σ := by
    intro k
    induction k with
    | zero =>
      intro i hi i1
      have : i = L := by omega
      subst this
      rw [f_Word_circle_12_eq, gfI_of hr.1.s0, e0, l3]
      split
      · rw [if_pos rfl]
      · rfl
    | succ k ih =>
      intro i hi i1
      have b := itF_lt on i x h0 h1
      have ne := l4 i i1 (by omega)
      rw [f_Word_circle_12_eq, gfI_of hr.1.s0, e0, if_pos (by rw [zI_le (by omega) (by omega)]; omega), if_neg (by rw [zI_eq (by omega) (by omega)]; exact ne), gdK_of ha.s0, lead_sp ha c ok hr b.1 b.2 s01, cI_rI, show (1 : Int32) = zI 1 from zI_lit 1, zI_add]
      exact ih (i + 1) (by omega) (by omega)
  rw [f_Word_circle_eq, gdK_of ha.s0, lead_sp ha c ok hr h0 h1 s01, cI_rI, show (1 : Int32) = zI 1 from zI_lit 1]
  exact main (L - 1) 1 (by omega) (by decide)
theorem rounds30_sp {σ : Sg} {a r d : Nat} {x2 : Int32} {x4 : Int} {A L k : Nat} (a1 : 1 ≤ A) (a2 : A ≤ 46656) (l1 : 1 ≤ L) (l2 : L ≤ 6) (k1 : 1 ≤ k) (k2 : k ≤ L) (hd : L ∣ k * A) (hl : ∀ j, 1 ≤ j → j < k → ¬ L ∣ j * A) : ∀ (b i : Nat), i + b = k → 1 ≤ i → ∃ v1 v2 v3, f_Word_rounds_30 d a r x2 (zI ((i * A : Nat) : Int)) (zI x4) (zI (L : Int)) (zI (A : Int)) (zI (i : Int)) σ = f_Word_rounds_5 d a r x2 (zI ((k * A : Nat) : Int)) (zI (x4 + 1)) v1 v2 v3 σ := by
  have bd : ∀ i, i ≤ k → i * A ≤ 279936 := fun i hi => by
    have := Nat.mul_le_mul (show i ≤ 6 by omega) a2
    omega
  intro b
  induction b with
  | zero =>
    intro i hi i1
    have : i = k := by omega
    subst this
    have bd := bd i (Nat.le_refl _)
    refine ⟨.int (zI (L : Int)), .int (zI (A : Int)), .int (zI (i : Int)), ?_⟩
    rw [f_Word_rounds_30_eq, show (1 : Int32) = zI 1 from zI_lit 1, zI_add]
    by_cases q : i < L
    · rw [if_pos (by rw [zI_le (by omega) (by omega)]; omega), rmI_nn (by omega) (by omega) (by omega) (by omega), if_pos]
      have e : ((i * A : Nat) : Int) % (L : Int) = 0 := Int.emod_eq_zero_of_dvd (Int.natCast_dvd_natCast.mpr hd)
      rw [e]; rfl
    · rw [if_neg (by rw [zI_le (by omega) (by omega)]; omega)]
  | succ b ih =>
    intro i hi i1
    have bd := bd i (by omega)
    obtain ⟨v1, v2, v3, e⟩ := ih (i + 1) (by omega) (by omega)
    refine ⟨v1, v2, v3, ?_⟩
    rw [f_Word_rounds_30_eq, if_pos (by rw [zI_le (by omega) (by omega)]; omega), rmI_nn (by omega) (by omega) (by omega) (by omega), if_neg, show (1 : Int32) = zI 1 from zI_lit 1, zI_add, zI_add]
    · rw [← e]
      rw [show ((i * A : Nat) : Int) + (A : Int) = (((i + 1) * A : Nat) : Int) by rw [Nat.succ_mul]; omega]
      rfl
    · have lt := Int.emod_lt_of_pos ((i * A : Nat) : Int) (show (0 : Int) < L by omega)
      have nn := Int.emod_nonneg ((i * A : Nat) : Int) (show (L : Int) ≠ 0 by omega)
      rw [zI_0, zI_eq (by omega) (by decide)]
      intro z
      exact hl i i1 (by omega) (Int.natCast_dvd_natCast.mp (Int.dvd_of_emod_eq_zero z))
def isOft (f : Int → Int) (n : Int) (A : Nat) : Prop := 1 ≤ A ∧ A ≤ 46656 ∧ ∀ m : Nat, (∀ x, 0 ≤ x → x < n → itF f m x = x) ↔ A ∣ m
theorem rounds_sp {σ : Sg} {a r d : Nat} {n : Int} {W : WS} (ha : isW a) (c : CWo a W σ) (ok : WOk W) (hr : RuleAt σ r n) (n0 : 0 ≤ n) {s : Int} (s01 : s = 0 ∨ s = 1) : ∃ A : Nat, f_Word_rounds (d + 5) a r (zI s) σ = rI (zI (A : Int)) σ ∧ isOft (fOf σ r W s) n A := by
  have n6 := hr.2.2.1
  have e0 : σ.1 r 0 = zI n := by rw [rd_k]; exact congrArg zI hr.2.1
  have on := fOf_on hr W s
  have main : ∀ (k : Nat) (x : Int) (A : Nat) (v1 v2 v3 : Value), x + k = n → 0 ≤ x → 1 ≤ A → A * 6 ^ k ≤ 46656 → (∀ m : Nat, (∀ y, 0 ≤ y → y < x → itF (fOf σ r W s) m y = y) ↔ A ∣ m) → ∃ B : Nat, f_Word_rounds_5 (d + 4) a r (zI s) (zI (A : Int)) (zI x) v1 v2 v3 σ = rI (zI (B : Int)) σ ∧ isOft (fOf σ r W s) n B := by
    intro k
    induction k with
    | zero =>
      intro x A v1 v2 v3 hx x0 a1 a2 hA
      have : x = n := by omega
      subst this
      refine ⟨A, ?_, a1, by omega, hA⟩
      rw [f_Word_rounds_5_eq, gfI_of hr.1.s0, e0, if_neg Int32.lt_irrefl]
    | succ k ih =>
      intro x A v1 v2 v3 hx x0 a1 a2 hA
      have x1 : x < n := by omega
      obtain ⟨L, hL⟩ := circ_ex on x0 x1
      have dv := circ_dvd hL
      have cs := circle_sp ha c ok hr (d := d + 1) s01 x0 x1 hL
      obtain ⟨l1, l2, -, -⟩ := hL
      obtain ⟨k0, k1, ⟨k2, k3⟩, k4⟩ := lstN (P := fun j => 1 ≤ j ∧ L ∣ j * A) L ⟨l1, ⟨A, rfl⟩⟩
      have p6 : 1 ≤ 6 ^ (k + 1) := Nat.one_le_pow _ _ (by decide)
      have ab : A ≤ 46656 := Nat.le_trans (Nat.le_mul_of_pos_right A (by omega)) a2
      obtain ⟨w1, w2, w3, e⟩ := rounds30_sp (σ := σ) (a := a) (r := r) (d := d + 4) (x2 := zI s) (x4 := x) a1 ab l1 (by omega) k2 k1 k3 (fun j j1 j2 j3 => k4 j j2 ⟨j1, j3⟩) (k0 - 1) 1 (by omega) (by decide)
      have ab2 : k0 * A * 6 ^ k ≤ 46656 := by
        have h1 : k0 * A * 6 ^ k ≤ 6 * A * 6 ^ k := Nat.mul_le_mul_right _ (Nat.mul_le_mul_right _ (by omega))
        have h2 : 6 * A * 6 ^ k = A * 6 ^ (k + 1) := by rw [Nat.pow_succ, Nat.mul_comm 6 A, Nat.mul_assoc, Nat.mul_comm 6]
        omega
      obtain ⟨B, b1, b2⟩ := ih (x + 1) (k0 * A) w1 w2 w3 (by omega) (by omega) (Nat.mul_pos k2 a1) ab2 fun m => by
        rw [← lcm_step k2 k3 (fun j j1 j2 j3 => k4 j j2 ⟨j1, j3⟩) m, ← hA m, ← dv m]
        constructor
        · intro h; exact ⟨fun y y0 y1 => h y y0 (by omega), h x x0 (by omega)⟩
        · rintro ⟨h, h'⟩ y y0 y1
          by_cases z : y = x
          · subst z; exact h'
          · exact h y y0 (by omega)
      refine ⟨B, ?_, b2⟩
      rw [f_Word_rounds_5_eq, gfI_of hr.1.s0, e0, if_pos (by rw [zI_le (by omega) (by omega)]; exact x1), gdK_of ha.s0, cs, cI_rI]
      rw [Nat.one_mul] at e
      exact e.trans b1
  rw [f_Word_rounds_eq, zI_0]
  obtain ⟨B, b1, b2⟩ := main n.toNat 0 1 .null .null .null (by omega) (by decide) (by decide) (by
    have : 6 ^ n.toNat ≤ 6 ^ 6 := Nat.pow_le_pow_right (by decide) (by omega)
    omega) fun m => ⟨fun _ => Nat.one_dvd m, fun _ y y0 y1 => by omega⟩
  exact ⟨B, b1, b2⟩
def SOf (a k : Nat) : Bool := a == 129 || a == 130
theorem plain_sp {σ : Sg} {d : Nat} {n : Int} (n0 : 0 ≤ n ∧ n ≤ 6) (e0 : σ.1 102 5 = zI n) {g : Int → Int} (hg : ∀ x, 0 ≤ x → x < n → σ.1 129 x.toNat = zI (g x) ∧ 0 ≤ g x ∧ g x < n) : ∃ b, f_M_isPlain (d + 1) 129 σ = rI (bz b) σ ∧ (b = true ↔ ∀ x, 0 ≤ x → x < n → g x = x) := by
  have main : ∀ (k : Nat) (x : Int), x + k = n → 0 ≤ x → (∀ y, 0 ≤ y → y < x → g y = y) → ∃ b, f_M_isPlain_2 d 129 (zI x) σ = rI (bz b) σ ∧ (b = true ↔ ∀ x, 0 ≤ x → x < n → g x = x) := by
    intro k
    induction k with
    | zero =>
      intro x hx x0 h
      have : x = n := by omega
      subst this
      refine ⟨true, ?_, fun _ => h, fun _ => rfl⟩
      rw [f_M_isPlain_2_eq, e0, if_neg Int32.lt_irrefl, show (1 : Int32) = zI 1 from zI_lit 1, rZ_z1]; rfl
    | succ k ih =>
      intro x hx x0 h
      obtain ⟨g1, g2, g3⟩ := hg x x0 (by omega)
      by_cases z : g x = x
      · obtain ⟨b, b1, b2⟩ := ih (x + 1) (by omega) (by omega) fun y y0 y1 => by
          by_cases q : y = x
          · rw [q]; exact z
          · exact h y y0 (by omega)
        refine ⟨b, ?_, b2⟩
        rw [f_M_isPlain_2_eq, e0, if_pos (by rw [zI_le (by omega) (by omega)]; omega), ldi_of rfl x0 (by show x < (6 : Nat); omega) (by omega), g1, if_pos (congrArg zI z), show (1 : Int32) = zI 1 from zI_lit 1, zI_add]
        exact b1
      · refine ⟨false, ?_, fun q => (by cases q), fun q => absurd (q x x0 (by omega)) z⟩
        rw [f_M_isPlain_2_eq, e0, if_pos (by rw [zI_le (by omega) (by omega)]; omega), ldi_of rfl x0 (by show x < (6 : Nat); omega) (by omega), g1, if_neg (by rw [zI_eq (by omega) (by omega)]; exact z), zI_0, rZ_z0]; rfl
  rw [f_M_isPlain_eq, zI_0]
  exact main n.toNat 0 (by omega) (by decide) fun y y0 y1 => by omega
theorem often55_sp {n : Int} {f : Int → Int} (on : onN n f) (n0 : 0 ≤ n ∧ n ≤ 6) {d : Nat} {m : Nat} (mb : m < 100000) : ∀ (k : Nat) (x : Int) (v : Value) (τ : Sg), x + k = n → 0 ≤ x → τ.1 102 5 = zI n → (∀ y, 0 ≤ y → y < n → τ.1 130 y.toNat = zI (f y) ∧ τ.1 129 y.toNat = zI (if y < x then itF f (m + 1) y else itF f m y)) → ∃ τ' v' v2, Fr SOf τ τ' ∧ f_M_oftenTill_55 d v (zI (m : Int)) (zI x) τ = f_M_oftenTill_42 d v' (zI ((m + 1 : Nat) : Int)) v2 τ' ∧ ∀ y, 0 ≤ y → y < n → τ'.1 130 y.toNat = zI (f y) ∧ τ'.1 129 y.toNat = zI (itF f (m + 1) y) := by
  intro k
  induction k with
  | zero =>
    intro x v τ hx x0 e0 h
    have : x = n := by omega
    subst this
    refine ⟨τ, nlg v, .int (zI x), Fr.rf _ _, ?_, fun y y0 y1 => ?_⟩
    · rw [f_M_oftenTill_55_eq, e0, if_neg Int32.lt_irrefl, show (1 : Int32) = zI 1 from zI_lit 1, zI_add]; rfl
    · have := h y y0 y1; rw [if_pos y1] at this; exact this
  | succ k ih =>
    intro x v τ hx x0 e0 h
    have x1 : x < n := by omega
    obtain ⟨h1, h2⟩ := h x x0 x1
    rw [if_neg (by omega)] at h2
    have b := itF_lt on m x x0 x1
    obtain ⟨h3, -⟩ := h _ b.1 b.2
    have F1 : Fr SOf τ (sI τ 129 x.toNat (zI (itF f (m + 1) x))) := (Fr.rf _ τ).sI _ rfl
    obtain ⟨τ', v', v2, F, e, hf⟩ := ih (x + 1) v (sI τ 129 x.toNat (zI (itF f (m + 1) x))) (by omega) (by omega) e0 fun y y0 y1 => by
      obtain ⟨u1, u2⟩ := h y y0 y1
      refine ⟨u1, ?_⟩
      by_cases q : y = x
      · subst q; rw [sI_same, if_pos (by omega)]
      · rw [sI_slot _ _ _ _ (by omega), u2]
        by_cases q2 : y < x
        · rw [if_pos q2, if_pos (by omega)]
        · rw [if_neg q2, if_neg (by omega)]
    refine ⟨τ', v', v2, F1.tr F, ?_, hf⟩
    rw [f_M_oftenTill_55_eq, e0, if_pos (by rw [zI_le (by omega) (by omega)]; omega)]
    simp only [ix_zI x0 (show x < 2147483648 by omega), h2, bnd_zI x0 (show x < (6 : Nat) by omega) (show x < 2147483648 by omega), bnd_zI b.1 (show itF f m x < (6 : Nat) by omega) (by omega), ix_zI b.1 (show itF f m x < 2147483648 by omega), h3, show (1 : Int32) = zI 1 from zI_lit 1, zI_add]
    exact e
theorem often_sp {σ : Sg} {d : Nat} {n : Int} {W : WS} {A B C M : Int → Int} (c : MWo W σ) (ok : WOk W) (hr : MR4 σ n A B C M) (n0 : 0 ≤ n ∧ n ≤ 6) (e0 : σ.1 102 5 = zI n) {s : Int} (s01 : s = 0 ∨ s = 1) {f : Int → Int} (hf : f = ldF (goF A B C M) W.st W.size.toNat 0 s) (hG : ∀ k s x, 0 ≤ x → x < n → 0 ≤ goF A B C M k s x ∧ goF A B C M k s x < n) (on : onN n f) {N : Nat} (hN : isOft f n N) : ∃ σ', Fr SOf σ σ' ∧ f_M_oftenTill (d + 4) (zI s) σ = rI (zI (N : Int)) σ' := by
  obtain ⟨N1, N2, N3⟩ := hN
  have loop : ∀ (k m : Nat) (v v2 : Value) (τ : Sg), m + k = N → 1 ≤ m → τ.1 102 5 = zI n → (∀ y, 0 ≤ y → y < n → τ.1 130 y.toNat = zI (f y) ∧ τ.1 129 y.toNat = zI (itF f m y)) → ∃ σ', Fr SOf τ σ' ∧ f_M_oftenTill_42 (d + 3) v (zI (m : Int)) v2 τ = rI (zI (N : Int)) σ' := by
    intro k
    induction k with
    | zero =>
      intro m v v2 τ hm m1 e0 h
      have : m = N := by omega
      subst this
      obtain ⟨b, b1, b2⟩ := plain_sp n0 e0 (d := d + 2) (g := itF f m) fun x x0 x1 => ⟨(h x x0 x1).2, itF_lt on m x x0 x1⟩
      have bt : b = true := b2.mpr ((N3 m).mpr (Nat.dvd_refl m))
      refine ⟨τ, Fr.rf _ _, ?_⟩
      rw [f_M_oftenTill_42_eq, b1, cI_rI, bt, bz_tt, if_neg (by decide)]
    | succ k ih =>
      intro m v v2 τ hm m1 e0 h
      obtain ⟨b, b1, b2⟩ := plain_sp n0 e0 (d := d + 2) (g := itF f m) fun x x0 x1 => ⟨(h x x0 x1).2, itF_lt on m x x0 x1⟩
      have bt : b = false := by
        cases b with
        | false => rfl
        | true =>
          have dv := (N3 m).mp (b2.mp rfl)
          have := Nat.le_of_dvd m1 dv
          omega
      obtain ⟨τ', v', v3, F, e, hh⟩ := often55_sp on n0 (d := d + 3) (m := m) (by omega) n.toNat 0 v τ (by omega) (by decide) e0 fun y y0 y1 => by
        rw [if_neg (by omega)]; exact h y y0 y1
      obtain ⟨σ', F', e'⟩ := ih (m + 1) v' v3 τ' (by omega) (by omega) ((F.2 _ _ rfl).trans e0) hh
      refine ⟨σ', F.tr F', ?_⟩
      rw [f_M_oftenTill_42_eq, b1, cI_rI, bt, bz_ff, zI_0, if_pos rfl]
      exact e.trans e'
  have fill : ∀ (k : Nat) (x : Int) (v : Value) (τ : Sg), x + k = n → 0 ≤ x → Fr SOf σ τ → (∀ y, 0 ≤ y → y < x → τ.1 130 y.toNat = zI (f y) ∧ τ.1 129 y.toNat = zI (f y)) → ∃ σ', Fr SOf σ σ' ∧ f_M_oftenTill_2 (d + 3) (zI s) (zI x) v τ = rI (zI (N : Int)) σ' := by
    intro k
    induction k with
    | zero =>
      intro x v τ hx x0 F h
      have : x = n := by omega
      subst this
      have e0' : τ.1 102 5 = zI x := (F.2 _ _ rfl).trans e0
      obtain ⟨σ', F', e'⟩ := loop (N - 1) 1 (.int (zI s)) v τ (by omega) (by decide) e0' h
      refine ⟨σ', F.tr F', ?_⟩
      rw [f_M_oftenTill_2_eq, e0', if_neg Int32.lt_irrefl]
      exact e'
    | succ k ih =>
      intro x v τ hx x0 F h
      have x1 : x < n := by omega
      have e0' : τ.1 102 5 = zI n := (F.2 _ _ rfl).trans e0
      have c' : MWo W τ := ⟨(F.2 _ _ rfl).trans c.1, fun y y0 y1 => ⟨(F.2 _ _ rfl).trans (c.2 y y0 y1).1, (F.2 _ _ rfl).trans (c.2 y y0 y1).2⟩⟩
      have el : f_M_leadsTo (d + 3) (zI x) (zI s) τ = rI (zI (f x)) τ := by
        rw [leadM_sp c' ok (hr.fr F rfl (fun _ => rfl) (fun _ => rfl)) hG x0 x1 s01, hf]
      obtain ⟨σ', F', e'⟩ := ih (x + 1) v (sI (sI τ 130 x.toNat (zI (f x))) 129 x.toNat (zI (f x))) (by omega) (by omega) ((F.sI _ rfl).sI _ rfl) fun y y0 y1 => by
        by_cases q : y = x
        · subst q
          rw [sI_same, sI_row _ _ _ _ _ (by decide), sI_same]; exact ⟨rfl, rfl⟩
        · rw [sI_row _ _ _ _ _ (by decide), sI_slot _ _ _ _ (by omega), sI_slot _ _ _ _ (by omega), sI_row _ _ _ _ _ (by decide)]; exact h y y0 (by omega)
      refine ⟨σ', F', ?_⟩
      rw [f_M_oftenTill_2_eq, e0', if_pos (by rw [zI_le (by omega) (by omega)]; omega), el, cI_rI]
      simp only [ix_zI x0 (show x < 2147483648 by omega), bnd_zI x0 (show x < (6 : Nat) by omega) (show x < 2147483648 by omega), sI_same, show (1 : Int32) = zI 1 from zI_lit 1, zI_add]
      exact e'
  rw [f_M_oftenTill_eq, zI_0]
  exact fill n.toNat 0 _ σ (by omega) (by decide) (Fr.rf _ σ) fun y y0 y1 => by omega
