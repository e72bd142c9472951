/-! allRules -/
def SKe (a k : Nat) : Bool := S6 140 a k || S6 141 a k || (a == 102 && k == 58)
theorem keepsRule_sp {σ : Sg} {d : Nat} : ∃ σ', f_M_keepsRule (d + 1) σ = rV σ' ∧ Fr SKe σ σ' ∧ σ'.1 102 58 = σ.1 102 5 ∧ ∀ k : Nat, k < 6 → σ'.1 140 k = σ.1 106 k ∧ σ'.1 141 k = σ.1 107 k := by
  have main : ∀ (b : Nat) (x : Int) (τ : Sg), x + b = 6 → 0 ≤ x → Fr SKe σ τ → τ.1 102 58 = σ.1 102 5 → (∀ k : Nat, (k : Int) < x → τ.1 140 k = σ.1 106 k ∧ τ.1 141 k = σ.1 107 k) → ∃ σ', f_M_keepsRule_10 d (zI x) τ = rV σ' ∧ Fr SKe σ σ' ∧ σ'.1 102 58 = σ.1 102 5 ∧ ∀ k : Nat, k < 6 → σ'.1 140 k = σ.1 106 k ∧ σ'.1 141 k = σ.1 107 k := by
    intro b
    induction b with
    | zero =>
      intro x τ hx x0 F h5 h
      have : x = 6 := by omega
      subst this
      exact ⟨τ, by rw [f_M_keepsRule_10_eq, show (6 : Int32) = zI 6 from zI_lit 6, if_neg Int32.lt_irrefl], F, h5, fun k hk => h k (by omega)⟩
    | succ b ih =>
      intro x τ hx x0 F h5 h
      obtain ⟨σ', a1, a2⟩ := ih (x + 1) (sI (sI τ 140 x.toNat (σ.1 106 x.toNat)) 141 x.toNat (σ.1 107 x.toNat)) (by omega) (by omega) ((F.sI _ (by simp [SKe, S6]; omega)).sI _ (by simp [SKe, S6]; omega)) ((sI_row _ _ _ _ _ (by decide)).trans ((sI_row _ _ _ _ _ (by decide)).trans h5)) fun k hk => by
        by_cases q : k = x.toNat
        · subst q; rw [sI_same, sI_row _ _ _ _ _ (by decide), sI_same]; exact ⟨rfl, rfl⟩
        · rw [sI_row _ _ _ _ _ (by decide), sI_slot _ _ _ _ q, sI_slot _ _ _ _ q, sI_row _ _ _ _ _ (by decide)]; exact h k (by omega)
      refine ⟨σ', ?_, a2⟩
      rw [f_M_keepsRule_10_eq, show (6 : Int32) = zI 6 from zI_lit 6, if_pos (by rw [zI_le (by omega) (by decide)]; omega), bnd_zI x0 (by omega) (by omega), bnd_zI x0 (by omega) (by omega)]
      simp only [bnd_zI x0 (show x < (6 : Nat) by omega) (show x < 2147483648 by omega), ix_zI x0 (show x < 2147483648 by omega)]
      rw [F.2 106 _ (by simp [SKe, S6]), show (sI τ 140 x.toNat (σ.1 106 x.toNat)).1 107 x.toNat = σ.1 107 x.toNat from (sI_row _ _ _ _ _ (by decide)).trans (F.2 107 _ (by simp [SKe, S6])), show (1 : Int32) = zI 1 from zI_lit 1, zI_add]
      exact a1
  obtain ⟨σ', a1, a2⟩ := main 6 0 (sI σ 102 58 (σ.1 102 5)) (by decide) (by decide) ((Fr.rf _ σ).sI _ rfl) (sI_same _ _ _ _) fun k hk => by omega
  refine ⟨σ', ?_, a2⟩
  rw [f_M_keepsRule_eq, zI_0]
  exact a1
def SPu (a k : Nat) : Bool := S6 106 a k || S6 107 a k || (a == 102 && k == 5)
theorem putsBack_sp {σ : Sg} {d : Nat} : ∃ σ', f_M_putsRuleBack (d + 1) σ = rV σ' ∧ Fr SPu σ σ' ∧ σ'.1 102 5 = σ.1 102 58 ∧ ∀ k : Nat, k < 6 → σ'.1 106 k = σ.1 140 k ∧ σ'.1 107 k = σ.1 141 k := by
  have main : ∀ (b : Nat) (x : Int) (τ : Sg), x + b = 6 → 0 ≤ x → Fr SPu σ τ → τ.1 102 5 = σ.1 102 58 → (∀ k : Nat, (k : Int) < x → τ.1 106 k = σ.1 140 k ∧ τ.1 107 k = σ.1 141 k) → ∃ σ', f_M_putsRuleBack_10 d (zI x) τ = rV σ' ∧ Fr SPu σ σ' ∧ σ'.1 102 5 = σ.1 102 58 ∧ ∀ k : Nat, k < 6 → σ'.1 106 k = σ.1 140 k ∧ σ'.1 107 k = σ.1 141 k := by
    intro b
    induction b with
    | zero =>
      intro x τ hx x0 F h5 h
      have : x = 6 := by omega
      subst this
      exact ⟨τ, by rw [f_M_putsRuleBack_10_eq, show (6 : Int32) = zI 6 from zI_lit 6, if_neg Int32.lt_irrefl], F, h5, fun k hk => h k (by omega)⟩
    | succ b ih =>
      intro x τ hx x0 F h5 h
      obtain ⟨σ', a1, a2⟩ := ih (x + 1) (sI (sI τ 106 x.toNat (σ.1 140 x.toNat)) 107 x.toNat (σ.1 141 x.toNat)) (by omega) (by omega) ((F.sI _ (by simp [SPu, S6]; omega)).sI _ (by simp [SPu, S6]; omega)) ((sI_row _ _ _ _ _ (by decide)).trans ((sI_row _ _ _ _ _ (by decide)).trans h5)) fun k hk => by
        by_cases q : k = x.toNat
        · subst q; rw [sI_same, sI_row _ _ _ _ _ (by decide), sI_same]; exact ⟨rfl, rfl⟩
        · rw [sI_row _ _ _ _ _ (by decide), sI_slot _ _ _ _ q, sI_slot _ _ _ _ q, sI_row _ _ _ _ _ (by decide)]; exact h k (by omega)
      refine ⟨σ', ?_, a2⟩
      rw [f_M_putsRuleBack_10_eq, show (6 : Int32) = zI 6 from zI_lit 6, if_pos (by rw [zI_le (by omega) (by decide)]; omega), bnd_zI x0 (by omega) (by omega), bnd_zI x0 (by omega) (by omega)]
      simp only [bnd_zI x0 (show x < (6 : Nat) by omega) (show x < 2147483648 by omega), ix_zI x0 (show x < 2147483648 by omega)]
      rw [F.2 140 _ (by simp [SPu, S6]), show (sI τ 106 x.toNat (σ.1 140 x.toNat)).1 141 x.toNat = σ.1 141 x.toNat from (sI_row _ _ _ _ _ (by decide)).trans (F.2 141 _ (by simp [SPu, S6])), show (1 : Int32) = zI 1 from zI_lit 1, zI_add]
      exact a1
  obtain ⟨σ', a1, a2⟩ := main 6 0 (sI σ 102 5 (σ.1 102 58)) (by decide) (by decide) ((Fr.rf _ σ).sI _ rfl) (sI_same _ _ _ _) fun k hk => by omega
  refine ⟨σ', ?_, a2⟩
  rw [f_M_putsRuleBack_eq, zI_0]
  exact a1
def spR (r a : Nat) : Bool := a == 19 - r || a == 20 - r || a == 21 - r || a == 22 - r || a == 23 - r
theorem Fr.cut {A T : Nat → Nat → Bool} {σ σ' : Sg} (F : Fr (fun a k => A a k || T a k) σ σ') : ∃ σ'', Fr A σ σ'' ∧ Fr T σ'' σ' := by
  refine ⟨(fun a k => if A a k = true then σ'.1 a k else σ.1 a k, σ'.2), ⟨F.1, fun a k e => ?_⟩, rfl, fun a k e => ?_⟩
  · show (if A a k = true then σ'.1 a k else σ.1 a k) = _
    rw [if_neg (by rw [e]; exact Bool.false_ne_true)]
  · show σ'.1 a k = (if A a k = true then σ'.1 a k else σ.1 a k)
    cases q : A a k with
    | true => rw [if_pos rfl]
    | false => rw [if_neg Bool.false_ne_true]; exact F.2 a k (by show (A a k || T a k) = false; rw [q, e]; rfl)
theorem Inv.spare {σ σ' : Sg} {r p l : Nat} (h : Inv r p l σ) (F : Fr (fun a _ => spR r a) σ σ') : Inv r p l σ' := by
  have hb := h.bits
  have hr := hb.1; have hp := hb.2.1; have hl := hb.2.2
  refine ⟨h.1.fr F, h.2.1.fr F ?_, h.2.2.1.fr F ?_, h.2.2.2.1.fr F ?_, h.2.2.2.2.1.fr F ?_, h.2.2.2.2.2.1.fr F ?_, h.2.2.2.2.2.2.1.fr F (fr_rd F ?_) ?_, h.2.2.2.2.2.2.2.fr F ?_⟩
  · intro a k; simp [DTape, spR]; omega
  · intro a k; simp [DRule, spR]; omega
  · intro a k; simp [DRoll, spR]; omega
  · intro a k; simp [DLaw, spR]; omega
  · intro a k; simp [DHou, spR]; omega
  · simp [spR]; omega
  · intro a k; simp [DV, spR]; omega
  · intro a k; simp [DKep, DV, spR]; omega
def SAl (a k : Nat) : Bool := SNw a k || SMw a k || S7z a k || SKe a k || a == 131 || (a == 102 && (k == 7 || k == 46))
theorem c_allRules {σ : Sg} {r p l : Nat} (h : Inv r p l σ) (n m w : Int32) : Same (f_N_allRules 100 n m w) (f_M_allRules 100 n m w) σ := by
  obtain ⟨n, rfl, hn⟩ := zI_ex n
  obtain ⟨m, rfl, hm⟩ := zI_ex m
  obtain ⟨w, rfl, hw⟩ := zI_ex w
  obtain ⟨n1, n2, n3, n4⟩ := h.n
  have hb := h.bits
  obtain ⟨t0, t1, t2, t3⟩ := h.2.1
  have e7 : σ.1 102 7 = zI (rd σ 5 1) := by rw [← t2]; exact rd_k σ 102 7
  have tN := isTapeHas (σ := σ) (d := 98) (a := m) (m := 40) (by decide) hm
  have inM := fun (τ : Sg) => in_sp (σ := τ) (d := 98) (a := n) (b := 2) (c := 5) hn (by decide) (by decide)
  have imM := fun (τ : Sg) => in_sp (σ := τ) (d := 98) (a := m) (b := 1) (c := 40) hm (by decide) (by decide)
  have iwM := fun (τ : Sg) => in_sp (σ := τ) (d := 98) (a := w) (b := 0) (c := 1) hw (by decide) (by decide)
  have k1 : (zI n < zI 2) = (n < 2) := zI_le hn (by decide)
  have k2 : (zI 5 < zI n) = (5 < n) := zI_le (by decide) hn
  have k3 : (zI w = zI 0) = (w = 0) := zI_eq hw (by decide)
  have k4 : (zI w = zI 1) = (w = 1) := zI_eq hw (by decide)
  have k5 : (zI (rd σ 5 1) < zI m) = (rd σ 5 1 < m) := zI_le (by omega) hm
  by_cases q : ¬ ((2 ≤ n ∧ n ≤ 5) ∧ (w = 0 ∨ w = 1) ∧ 1 ≤ m ∧ m ≤ 40 ∧ m ≤ rd σ 5 1)
  · refine ⟨-1, σ, σ, r, p, l, ?_, ?_, h⟩
    · rw [f_N_allRules_eq, show (2 : Int32) = zI 2 from zI_lit 2, show (5 : Int32) = zI 5 from zI_lit 5, show (40 : Int32) = zI 40 from zI_lit 40, tN, cI_rI]
      by_cases a1 : n < 2
      · rw [if_pos (by rw [k1]; exact a1), if_pos rfl]
      rw [if_neg (by rw [k1]; exact a1)]
      by_cases a2 : 5 < n
      · rw [if_pos (by rw [k2]; exact a2), if_pos rfl]
      rw [if_neg (by rw [k2]; exact a2)]
      by_cases a3 : 1 ≤ m ∧ m ≤ 40 ∧ m ≤ rd σ 5 1
      · rw [decide_eq_true a3, zI_0, if_neg (by rw [k3]; omega), show (1 : Int32) = zI 1 from zI_lit 1, if_neg (by rw [k4]; omega), if_pos rfl]
      · rw [decide_eq_false a3, bz_ff, zI_0, show (1 : Int32) = zI 1 from zI_lit 1]
        by_cases a4 : w = 0
        · rw [if_pos (by rw [k3]; exact a4), if_neg (by decide), if_pos rfl]
        rw [if_neg (by rw [k3]; exact a4)]
        by_cases a5 : w = 1
        · rw [if_pos (by rw [k4]; exact a5), if_neg (by decide), if_pos rfl]
        rw [if_neg (by rw [k4]; exact a5), if_pos rfl]
    · rw [f_M_allRules_eq, show (2 : Int32) = zI 2 from zI_lit 2, show (5 : Int32) = zI 5 from zI_lit 5, inM, cI_rI]
      by_cases a1 : 2 ≤ n ∧ n ≤ 5
      · rw [decide_eq_true a1, bz_tt, if_neg (by decide), show (40 : Int32) = zI 40 from zI_lit 40, show (1 : Int32) = zI 1 from zI_lit 1, imM, cI_rI]
        by_cases a2 : 1 ≤ m ∧ m ≤ 40
        · rw [decide_eq_true a2, bz_tt, zI_0, if_neg (by decide), iwM, cI_rI]
          by_cases a3 : 0 ≤ w ∧ w ≤ 1
          · rw [decide_eq_true a3, bz_tt, if_neg (by decide), e7, if_pos (by rw [k5]; omega)]
          · rw [decide_eq_false a3, bz_ff, if_pos rfl]
        · rw [decide_eq_false a2, bz_ff, if_pos (by decide)]
      · rw [decide_eq_false a1, bz_ff, if_pos (by decide)]
  obtain ⟨qn, qw, qm⟩ := Classical.not_not.mp q
  obtain ⟨σ1, σ2, et, e1, eN, F02, x1, bd, rest⟩ := wordBoth h (n := m) (s := 0) qm (Or.inl rfl) 98 95 95
  have hqr : isR (19 - r) := by rcases hb.1 with rfl | rfl <;> simp [isR]
  have q42 : σ2.2.2 4 2 = 19 - r := by rw [F02.1]; exact h.1.2.2.2.2.1
  generalize hR : wRes (rd σ 6) m 0 = R at *
  have kz : (zI R = zI 0) = (R = 0) := zI_eq (by omega) (by decide)
  have kz2 : (zI R < zI 0) = (R < 0) := zI_le (by omega) (by decide)
  have startN : f_N_allRules 100 (zI n) (zI m) (zI w) σ = if R = 0 then (cI (f_Word_sortAtEnd 99 49 σ2) fun v20 σ19 => if v20 = zI 1 then cI (f_N_rulesForWord 99 (zI n) (zI w) σ19) fun v σ => rI v σ else rI (zI 0) σ19) else rI (zI R) σ2 := by
    rw [f_N_allRules_eq, show (2 : Int32) = zI 2 from zI_lit 2, show (5 : Int32) = zI 5 from zI_lit 5, show (40 : Int32) = zI 40 from zI_lit 40, tN, cI_rI, decide_eq_true qm, bz_tt, zI_0, show (1 : Int32) = zI 1 from zI_lit 1, et, cV_rV, eN, cI_rI, if_neg (by rw [k1]; omega), if_neg (by rw [k2]; omega)]
    rcases qw with z | z
    · rw [if_pos (by rw [k3]; exact z), if_neg (by decide), if_neg (by decide)]
      simp only [kz]
    · rw [if_neg (by rw [k3]; omega), if_pos (by rw [k4]; exact z), if_neg (by decide), if_neg (by decide)]
      simp only [kz]
  have startM : ∀ υ : Sg, υ.1 102 7 = zI (rd σ 5 1) → ∀ σ3, f_M_readsWord 99 (zI 0) (zI m) (zI 0) υ = rI (zI R) σ3 → f_M_allRules 100 (zI n) (zI m) (zI w) υ = if R < 0 then rI (zI R) (sI σ3 102 7 (zI 0)) else cV (f_M_keepsRule 99 (sI σ3 102 7 (zI 0))) fun σ10 => cI (f_M_countsRules 99 (zI w) (sI σ10 102 5 (zI n))) fun v13 σ12 => cV (f_M_putsRuleBack 99 σ12) fun σ14 => rI v13 σ14 := fun υ u7 σ3 eM => by
    rw [f_M_allRules_eq, show (2 : Int32) = zI 2 from zI_lit 2, show (5 : Int32) = zI 5 from zI_lit 5, inM, cI_rI, decide_eq_true qn, bz_tt, if_neg (by decide), show (40 : Int32) = zI 40 from zI_lit 40, show (1 : Int32) = zI 1 from zI_lit 1, imM, cI_rI, decide_eq_true (show 1 ≤ m ∧ m ≤ 40 by omega), bz_tt, zI_0, if_neg (by decide), iwM, cI_rI, decide_eq_true (show 0 ≤ w ∧ w ≤ 1 by omega), bz_tt, if_neg (by decide), u7, if_neg (by rw [k5]; omega), eM, cI_rI]
    simp only [kz2]
    rcases qw with z | z
    · subst z; simp only [show ¬ (zI 0 = zI 1) from by decide, if_false]
    · subst z; simp only [if_true]
  have hI : ∀ τ, Fr (fun a k => spR r a || SAl a k) σ τ → rd τ 5 1 = 0 → rd τ 102 7 = 0 → Inv r p l τ := fun τ F g g' => by
    obtain ⟨υ, G1, G2⟩ := F.cut (A := fun a _ => spR r a) (T := SAl)
    refine (h.spare G1).took G2 ?_ ?_ (by rcases hb.2.2 with rfl | rfl <;> rfl) (by rcases hb.2.2 with rfl | rfl <;> repeat (first | exact trivial | refine ⟨fun _ => rfl, ?_⟩ | refine ⟨rfl, ?_⟩)) g g'
    · repeat (first | exact trivial | refine ⟨fun _ => rfl, ?_⟩ | refine ⟨rfl, ?_⟩)
    · repeat (first | exact trivial | refine ⟨fun _ => rfl, ?_⟩ | refine ⟨rfl, ?_⟩)
  have uN : ∀ {τ υ : Sg}, Fr SNw τ υ → Fr (fun a k => spR r a || SAl a k) τ υ := fun F => F.mono fun a k e => by
    simp only [SAl, Bool.or_eq_false_iff] at e; exact e.2.1.1.1.1.1
  have uM : ∀ {τ υ : Sg}, Fr SMw τ υ → Fr (fun a k => spR r a || SAl a k) τ υ := fun F => F.mono fun a k e => by
    simp only [SAl, Bool.or_eq_false_iff] at e; exact e.2.1.1.1.1.2
  have uR : ∀ {τ υ : Sg}, Fr (fun a k => (a == 19 - r && k == 0) || SRc (19 - r) a k) τ υ → Fr (fun a k => spR r a || SAl a k) τ υ := fun F => F.mono fun a k e => by
    simp only [spR, SAl, Bool.or_eq_false_iff, beq_eq_false_iff_ne] at e
    obtain ⟨⟨⟨⟨⟨b0, b1⟩, b2⟩, b3⟩, b4⟩, ⟨⟨⟨-, c1⟩, -⟩, -⟩, -⟩ := e
    have hr := hb.1
    simp only [SRc, Bool.or_eq_false_iff, Bool.and_eq_false_iff, beq_eq_false_iff_ne]
    exact ⟨Or.inl b0, ⟨⟨⟨by omega, by omega⟩, by omega⟩, by omega⟩, c1⟩
  by_cases z : R = 0
  · obtain ⟨σ3a, -, -, hWa, -⟩ := rest σ2 (fun k => F02.2 _ _ rfl)
    obtain ⟨W, w1, w2, w3, -, w5⟩ := hWa z
    have hN : ∃ σ', f_N_allRules 100 (zI n) (zI m) (zI w) σ = rI (zI (cnt (PG n W (decide (w = 1))) (fac n.toNat * fac n.toNat))) σ' ∧ Fr (fun a k => (a == 19 - r && k == 0) || SRc (19 - r) a k) σ2 σ' := by
      have sN := sortEnd_sp (a := 49) (d := 97) (Or.inl rfl) w1 w2 w3
      rw [startN, if_pos z, sN, cI_rI]
      by_cases y : W.st (W.size - 1) % 2 = 1
      · obtain ⟨σ', a1, a2⟩ := rules_sp (d := 94) hqr q42 qn.1 qn.2 w1 w2 w3 qw
        refine ⟨σ', ?_, a2⟩
        rw [if_pos (congrArg zI y), a1, cI_rI]
      · refine ⟨σ2, ?_, Fr.rf _ _⟩
        rw [if_neg (by rw [zI_eq (by omega) (by decide)]; exact y)]
        have : cnt (PG n W (decide (w = 1))) (fac n.toNat * fac n.toNat) = 0 := by
          have := cnt_gap (P := PG n W (decide (w = 1))) (a := 0) (fac n.toNat * fac n.toNat) fun t _ t1 => by
            cases v : PG n W (decide (w = 1)) (t : Int) with
            | false => rfl
            | true =>
              have fp : 0 < fac n.toNat := (fac_bd n.toNat (by omega)).1
              have := (PG_iff (n := n) (Wd := W) (ev := decide (w = 1)) (i := t / fac n.toNat) (Nat.mod_lt t fp)).mp (by rw [Nat.div_add_mod']; exact v)
              have := (this.2.1 0 (by decide) (by omega)).1
              omega
          rw [Nat.zero_add] at this
          rw [this]; rfl
        rw [this]
    obtain ⟨σ', a1, a2⟩ := hN
    have hS : ∀ a, (a = 5 ∨ a = 108 ∨ a = 102) → ∀ k, ((a == 19 - r && k == 0) || SRc (19 - r) a k) = false := fun a ha k => by
      rcases ha with rfl | rfl | rfl <;> rcases hb.1 with rfl | rfl <;> rfl
    have F0' : Fr (fun a k => spR r a || SAl a k) σ σ' := (uN F02).tr (uR a2)
    have g51 : rd σ' 5 1 = 0 := by rw [fr_rd a2 (hS 5 (by simp) _)]; exact x1
    obtain ⟨σ3, F3, eM, hW, -⟩ := rest σ' (fun k => (a2.2 _ _ (hS 108 (by simp) _)).trans (F02.2 _ _ rfl))
    obtain ⟨W', -, -, -, v4, v5⟩ := hW z
    obtain rfl : W = W' := Sum.inr.inj (w5.symm.trans v5)
    have u7 : σ'.1 102 7 = zI (rd σ 5 1) := (a2.2 _ _ (hS 102 (by simp) _)).trans ((F02.2 _ _ rfl).trans e7)
    obtain ⟨σ4, c1, F4, c2, c3⟩ := keepsRule_sp (σ := sI σ3 102 7 (zI 0)) (d := 98)
    have mo : MWo W (sI σ4 102 5 (zI n)) := ⟨(sI_slot _ _ _ _ (by decide)).trans ((F4.2 _ _ rfl).trans ((sI_slot _ _ _ _ (by decide)).trans v4.1)), fun x x0 x1 => ⟨(sI_row _ _ _ _ _ (by decide)).trans ((F4.2 _ _ rfl).trans ((sI_row _ _ _ _ _ (by decide)).trans (v4.2 x x0 x1).1)), (sI_row _ _ _ _ _ (by decide)).trans ((F4.2 _ _ rfl).trans ((sI_row _ _ _ _ _ (by decide)).trans (v4.2 x x0 x1).2))⟩⟩
    obtain ⟨σ6, g1, F6⟩ := countsRules_sp (σ := sI σ4 102 5 (zI n)) (d := 94) qn.1 qn.2 (sI_same _ _ _ _) mo w2 w3 qw
    obtain ⟨σ7, g2, F7, g3, g4⟩ := putsBack_sp (σ := σ6) (d := 98)
    have back : ∀ a k, (spR r a || SAl a k) = false → σ7.1 a k = σ'.1 a k := fun a k e => by
      have e' : SAl a k = false := by rw [Bool.or_eq_false_iff] at e; exact e.2
      have e2 := e'
      simp only [SAl, Bool.or_eq_false_iff] at e2
      obtain ⟨⟨⟨⟨⟨-, m1⟩, -⟩, m2⟩, m3⟩, m4⟩ := e2
      have q7 : ¬ (a = 102 ∧ k = 7) := fun ⟨y1, y2⟩ => by subst y1; subst y2; cases m4
      have q46 : ¬ (a = 102 ∧ k = 46) := fun ⟨y1, y2⟩ => by subst y1; subst y2; cases m4
      have r37 : ∀ a k, SMw a k = false → ¬ (a = 102 ∧ k = 7) → (sI σ3 102 7 (zI 0)).1 a k = σ'.1 a k := fun a k e z => by
        rw [sI_1, if_neg z]; exact F3.2 a k e
      have k58 : (a == 102 && k == 58) = false := by
        unfold SKe at m2; simp only [Bool.or_eq_false_iff] at m2; exact m2.2
      by_cases h5 : a = 102 ∧ k = 5
      · obtain ⟨rfl, rfl⟩ := h5
        rw [g3, F6.2 102 58 rfl, sI_slot _ _ _ _ (by decide), c2]
        exact r37 102 5 m1 (by decide)
      by_cases h6 : a = 106 ∧ k < 6
      · obtain ⟨rfl, k6⟩ := h6
        rw [(g4 k k6).1, F6.2 140 k rfl, sI_row _ _ _ _ _ (by decide), (c3 k k6).1]
        exact r37 106 k m1 (by omega)
      by_cases h7 : a = 107 ∧ k < 6
      · obtain ⟨rfl, k6⟩ := h7
        rw [(g4 k k6).2, F6.2 141 k rfl, sI_row _ _ _ _ _ (by decide), (c3 k k6).2]
        exact r37 107 k m1 (by omega)
      have n6 : S6 106 a k = false ∧ S6 107 a k = false := by
        constructor
        · cases y : S6 106 a k with
          | false => rfl
          | true => simp [S6] at y; exact absurd y h6
        · cases y : S6 107 a k with
          | false => rfl
          | true => simp [S6] at y; exact absurd y h7
      have n5 : (a == 102 && k == 5) = false := by
        cases y : (a == 102 && k == 5) with
        | false => rfl
        | true => simp at y; exact absurd y h5
      have nw : SWa a k = false := by
        unfold SWa
        cases y : (a == 102 && k == 46) with
        | false => rw [m3]; rfl
        | true => simp at y; exact absurd y q46
      rw [F7.2 a k (by unfold SPu; rw [n6.1, n6.2, n5]; rfl), F6.2 a k (by unfold SRm; rw [n6.1, n6.2, nw]; rfl), sI_1, if_neg h5, F4.2 a k m2]
      exact r37 a k m1 q7
    have F07 : Fr (fun a k => spR r a || SAl a k) σ σ7 := F0'.tr ⟨F7.1.trans (F6.1.trans (F4.1.trans F3.1)), back⟩
    refine ⟨_, σ', σ7, r, p, l, a1, ?_, hI σ7 F07 ?_ ?_⟩
    · rw [startM σ' u7 σ3 eM, if_neg (by omega), c1, cV_rV, g1, cI_rI, g2, cV_rV]
    · rw [fr_rd F7 rfl, fr_rd F6 rfl, rd_other (by decide), fr_rd F4 rfl, rd_other (by decide), fr_rd F3 rfl]; exact g51
    · rw [fr_rd F7 rfl, fr_rd F6 rfl, rd_other (by decide), fr_rd F4 rfl]
      exact rd_same rfl (by decide) (by decide)
  · obtain ⟨σ3, F3, eM, -, -⟩ := rest σ2 (fun k => F02.2 _ _ rfl)
    have F03 : Fr (fun a k => spR r a || SAl a k) σ (sI σ3 102 7 (zI 0)) := ((uN F02).tr (uM F3)).sI _ (by simp [SAl])
    refine ⟨zI R, σ2, sI σ3 102 7 (zI 0), r, p, l, by rw [startN, if_neg z], ?_, hI _ F03 ?_ (rd_same rfl (by decide) (by decide))⟩
    · rw [startM σ2 ((F02.2 _ _ rfl).trans e7) σ3 eM, if_pos (by omega)]
    · rw [rd_other (by decide), fr_rd F3 rfl]; exact x1
