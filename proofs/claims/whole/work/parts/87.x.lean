/-! TERM in the reference -/
def S132 (a _k : Nat) : Bool := a == 132
def FIs (goal : Int) (al : Int → Int → Bool) (nx : Int → Int → Int) (N : Int) (F : Int → Int) (t : Nat) : Prop := (∀ v, 0 ≤ v → v < 12 → 0 ≤ F v ∧ F v ≤ 1000000) ∧ (∀ v, 0 ≤ v → v < N → F v < 1000000 → Rc al nx goal (F v).toNat v) ∧ ∀ (L : Nat) v, L ≤ t → 0 ≤ v → v < N → Rc al nx goal L v → F v ≤ L
theorem Rc.lt {goal : Int} {al : Int → Int → Bool} {nx : Int → Int → Int} {k v : Int} {L : Nat} (k0 : 0 ≤ k) (k8 : k < 8) (a : al k v = true) (h : Rc al nx goal L (nx k v)) : Rc al nx goal (L + 1) v := ⟨k, k0, k8, a, h⟩
theorem far42_sp {σ : Sg} {d : Nat} {n : Int} {W H C M : Int → Int} (hm : MR4 σ n W H C M) (hN : NmOk n W H C M) (e0 : σ.1 102 5 = zI n) (n0 : 0 ≤ n) {goal turn : Int} {t : Nat} {v1 : Value} : ∀ (b : Nat) (c : Int) (F : Int → Int) (τ : Sg) (v4 : Value), c + b = 16 * n → 0 ≤ c → Fr S132 σ τ → (∀ v, 0 ≤ v → v < 12 → τ.1 132 v.toNat = zI (F v)) → FIs goal alC (nxt W H C M) (2 * n) F t → (∀ c', 0 ≤ c' → c' < c → alC (c' % 8) (c' / 8) = true → ∀ L : Nat, L ≤ t → Rc alC (nxt W H C M) goal L (nxt W H C M (c' % 8) (c' / 8)) → F (c' / 8) ≤ (L : Int) + 1) → ∃ F' τ' v3 v4', f_M_laysFar_42 (d + 3) v1 (zI turn) (zI c) v4 τ = f_M_laysFar_34 (d + 3) (nlg v1) (zI (turn + 1)) v3 v4' τ' ∧ Fr S132 σ τ' ∧ (∀ v, 0 ≤ v → v < 12 → τ'.1 132 v.toNat = zI (F' v)) ∧ FIs goal alC (nxt W H C M) (2 * n) F' (t + 1) := by
  have n6 := hN.1
  intro b
  induction b with
  | zero =>
    intro c F τ v4 hc c0 G hF hI hP
    have : c = 16 * n := by omega
    subst this
    refine ⟨F, τ, .int (zI (16 * n)), v4, ?_, G, hF, hI.1, hI.2.1, fun L v Lt v0 v1 r => ?_⟩
    · rw [f_M_laysFar_42_eq, (G.2 102 _ rfl).trans e0, show (2 : Int32) = zI 2 from zI_lit 2, show (8 : Int32) = zI 8 from zI_lit 8, zI_mul, zI_mul, show 2 * n * 8 = 16 * n by omega, if_neg Int32.lt_irrefl, show (1 : Int32) = zI 1 from zI_lit 1, zI_add]
    · by_cases z : L ≤ t
      · exact hI.2.2 L v z v0 v1 r
      · obtain ⟨L, rfl⟩ : ∃ L', L = L' + 1 := ⟨L - 1, by omega⟩
        obtain ⟨k, k0, k8, a, r⟩ := r
        have := hP (8 * v + k) (by omega) (by omega)
        rw [show (8 * v + k) % 8 = k by omega, show (8 * v + k) / 8 = v by omega] at this
        have := this a L (by omega) r
        omega
  | succ b ih =>
    intro c F τ v4 hc c0 G hF hI hP
    have k0 : 0 ≤ c % 8 := by omega
    have k8 : c % 8 < 8 := by omega
    have u0 : 0 ≤ c / 8 := by omega
    have u1 : c / 8 < 2 * n := by omega
    have eu := hF (c / 8) u0 (by omega)
    have bu := hI.1 (c / 8) u0 (by omega)
    have st := stateBy_sp (hm.fr G rfl (fun _ => rfl) (fun _ => rfl)) (d := d) (k := c % 8) (v := c / 8) k0 k8 u0 u1
    have head : ∀ R, (if zI (if canB (c % 8) (c / 8 % 2) = true then nxt W H C M (c % 8) (c / 8) else -1) = zI (-1) then f_M_laysFar_42 (d + 3) v1 (zI turn) (zI (c + 1)) (.int (zI (if canB (c % 8) (c / 8 % 2) = true then nxt W H C M (c % 8) (c / 8) else -1))) τ else f_M_laysFar_75 (d + 3) v1 (zI turn) (zI c) (zI (if canB (c % 8) (c / 8 % 2) = true then nxt W H C M (c % 8) (c / 8) else -1)) τ) = R → f_M_laysFar_42 (d + 3) v1 (zI turn) (zI c) v4 τ = R := fun R hR => by
      rw [← hR, f_M_laysFar_42_eq, (G.2 102 _ rfl).trans e0, show (2 : Int32) = zI 2 from zI_lit 2, show (8 : Int32) = zI 8 from zI_lit 8, zI_mul, zI_mul, if_pos (by rw [zI_le (by omega) (by omega)]; omega), dvI_nn c0 (by omega) (by decide) (by decide), rmI_nn c0 (by omega) (by decide) (by decide), st, cI_rI, show (1 : Int32) = zI 1 from zI_lit 1, zI_neg, zI_add]
    cases hc' : canB (c % 8) (c / 8 % 2) with
    | false =>
      obtain ⟨F', τ', v3, v4', a1, a2⟩ := ih (c + 1) F τ (.int (zI (-1))) (by omega) (by omega) G hF hI fun c' x0 x1 al L Lt r => by
        by_cases z : c' = c
        · subst z
          have al : canB (c' % 8) (c' / 8 % 2) = true := al
          rw [hc'] at al; cases al
        · exact hP c' x0 (by omega) al L Lt r
      refine ⟨F', τ', v3, v4', head _ ?_, a2⟩
      rw [hc']
      simp only [Bool.false_eq_true, if_false, if_true]
      exact a1
    | true =>
      have wb := nxt_bd hN (k := c % 8) (v := c / 8) k0 k8 u0 u1
      have ew := hF (nxt W H C M (c % 8) (c / 8)) wb.1 (by omega)
      have bw := hI.1 (nxt W H C M (c % 8) (c / 8)) wb.1 (by omega)
      have nF : ∀ v, v ≠ c / 8 → (if v = c / 8 then min (F (c / 8)) (F (nxt W H C M (c % 8) (c / 8)) + 1) else F v) = F v := fun v z => if_neg z
      obtain ⟨F', τ', v3, v4', a1, a2⟩ := ih (c + 1) (fun v => if v = c / 8 then min (F (c / 8)) (F (nxt W H C M (c % 8) (c / 8)) + 1) else F v) (sI τ 132 (c / 8).toNat (zI (min (F (c / 8)) (F (nxt W H C M (c % 8) (c / 8)) + 1)))) (.int (zI (nxt W H C M (c % 8) (c / 8)))) (by omega) (by omega) (G.sI _ rfl) (fun v v0 v12 => by
          show _ = zI (if v = c / 8 then _ else _)
          by_cases z : v = c / 8
          · subst z; rw [sI_same, if_pos rfl]
          · rw [sI_slot _ _ _ _ (by omega), if_neg z]; exact hF v v0 v12) ⟨fun v v0 v12 => by
          show 0 ≤ (if v = c / 8 then _ else _) ∧ (if v = c / 8 then _ else _) ≤ 1000000
          by_cases z : v = c / 8
          · rw [if_pos z]; omega
          · rw [if_neg z]; exact hI.1 v v0 v12, fun v v0 v12 h => by
          have h : (if v = c / 8 then min (F (c / 8)) (F (nxt W H C M (c % 8) (c / 8)) + 1) else F v) < 1000000 := h
          show Rc _ _ _ (if v = c / 8 then min (F (c / 8)) (F (nxt W H C M (c % 8) (c / 8)) + 1) else F v).toNat v
          by_cases z : v = c / 8
          · rw [if_pos z] at h ⊢
            rcases Int.le_total (F (c / 8)) (F (nxt W H C M (c % 8) (c / 8)) + 1) with y | y
            · rw [show min (F (c / 8)) (F (nxt W H C M (c % 8) (c / 8)) + 1) = F (c / 8) by omega] at h ⊢
              rw [z]; exact hI.2.1 _ u0 u1 h
            · rw [show min (F (c / 8)) (F (nxt W H C M (c % 8) (c / 8)) + 1) = F (nxt W H C M (c % 8) (c / 8)) + 1 by omega] at h ⊢
              rw [show (F (nxt W H C M (c % 8) (c / 8)) + 1).toNat = (F (nxt W H C M (c % 8) (c / 8))).toNat + 1 by omega, z]
              exact Rc.lt k0 k8 hc' (hI.2.1 _ wb.1 wb.2 (by omega))
          · rw [if_neg z] at h ⊢; exact hI.2.1 v v0 v12 h, fun L v Lt v0 v12 r => by
          show (if v = c / 8 then _ else _) ≤ (L : Int)
          have := hI.2.2 L v Lt v0 v12 r
          by_cases z : v = c / 8
          · rw [if_pos z, ← z]; omega
          · rw [if_neg z]; exact this⟩ fun c' x0 x1 al L Lt r => by
          show (if c' / 8 = c / 8 then _ else _) ≤ (L : Int) + 1
          by_cases z : c' = c
          · subst z
            rw [if_pos rfl]
            have := hI.2.2 L _ Lt wb.1 wb.2 r
            omega
          · have := hP c' x0 (by omega) al L Lt r
            by_cases y : c' / 8 = c / 8
            · rw [if_pos y, ← y]; omega
            · rw [if_neg y]; exact this
      refine ⟨F', τ', v3, v4', head _ ?_, a2⟩
      rw [hc']
      simp only [if_true]
      rw [if_neg (by rw [zI_eq (by omega) (by decide)]; omega), f_M_laysFar_75_eq, show (8 : Int32) = zI 8 from zI_lit 8, dvI_nn c0 (by omega) (by decide) (by decide), dvI_nn c0 (by omega) (by decide) (by decide), bnd_zI u0 (by omega) (by omega), bnd_zI wb.1 (by omega) (by omega), ix_zI u0 (by omega), ix_zI wb.1 (by omega), eu, ew, show (1 : Int32) = zI 1 from zI_lit 1, zI_add, minM_sp (by omega) (by omega), cI_rI, bnd_zI u0 (by omega) (by omega), zI_add]
      exact a1
theorem laysFar_sp {σ : Sg} {d : Nat} {n : Int} {W H C M : Int → Int} (hm : MR4 σ n W H C M) (hN : NmOk n W H C M) (e0 : σ.1 102 5 = zI n) (n0 : 0 ≤ n) {goal : Int} (g0 : 0 ≤ goal) (g1 : goal < 2 * n) : ∃ F τ', f_M_laysFar (d + 4) (zI goal) σ = rV τ' ∧ Fr S132 σ τ' ∧ (∀ v, 0 ≤ v → v < 12 → τ'.1 132 v.toNat = zI (F v)) ∧ FIs goal alC (nxt W H C M) (2 * n) F 12 := by
  have n6 := hN.1
  have turns : ∀ (b t : Nat) (F : Int → Int) (τ : Sg) (v1 v3 v4 : Value), t + b = 12 → Fr S132 σ τ → (∀ v, 0 ≤ v → v < 12 → τ.1 132 v.toNat = zI (F v)) → FIs goal alC (nxt W H C M) (2 * n) F t → ∃ F' τ', f_M_laysFar_34 (d + 3) v1 (zI (t : Int)) v3 v4 τ = rV τ' ∧ Fr S132 σ τ' ∧ (∀ v, 0 ≤ v → v < 12 → τ'.1 132 v.toNat = zI (F' v)) ∧ FIs goal alC (nxt W H C M) (2 * n) F' 12 := by
    intro b
    induction b with
    | zero =>
      intro t F τ v1 v3 v4 ht G hF hI
      have : t = 12 := by omega
      subst this
      refine ⟨F, τ, ?_, G, hF, hI⟩
      rw [f_M_laysFar_34_eq, if_neg (by decide)]
    | succ b ih =>
      intro t F τ v1 v3 v4 ht G hF hI
      obtain ⟨F1, τ1, w3, w4, a1, a2, a3, a4⟩ := far42_sp hm hN e0 n0 (d := d) (turn := (t : Int)) (v1 := v1) (16 * n).toNat 0 F τ v4 (by omega) (by decide) G hF hI (fun c' x0 x1 => by omega)
      obtain ⟨F2, τ2, b1, b2⟩ := ih (t + 1) F1 τ1 (nlg v1) w3 w4 (by omega) a2 a3 a4
      refine ⟨F2, τ2, ?_, b2⟩
      rw [f_M_laysFar_34_eq, show (12 : Int32) = zI 12 from zI_lit 12, if_pos (by rw [zI_le (by omega) (by decide)]; omega), zI_0, a1]
      exact b1
  have init : ∀ (b : Nat) (x : Int) (τ : Sg), x + b = 12 → 0 ≤ x → Fr S132 σ τ → (∀ v, 0 ≤ v → v < x → τ.1 132 v.toNat = zI (if v = goal then 0 else 1000000)) → ∃ τ', f_M_laysFar_2 (d + 3) (zI goal) (zI x) .null .null τ = f_M_laysFar_34 (d + 3) (.int (zI goal)) (zI 0) .null .null τ' ∧ Fr S132 σ τ' ∧ ∀ v, 0 ≤ v → v < 12 → τ'.1 132 v.toNat = zI (if v = goal then 0 else 1000000) := by
    intro b
    induction b with
    | zero =>
      intro x τ hx x0 G h
      have : x = 12 := by omega
      subst this
      exact ⟨τ, by rw [f_M_laysFar_2_eq, show (12 : Int32) = zI 12 from zI_lit 12, if_neg Int32.lt_irrefl, zI_0], G, h⟩
    | succ b ih =>
      intro x τ hx x0 G h
      obtain ⟨τ', a1, a2⟩ := ih (x + 1) (sI τ 132 x.toNat (zI (if x = goal then 0 else 1000000))) (by omega) (by omega) (G.sI _ rfl) fun v v0 v1 => by
        by_cases q : v = x
        · subst q; rw [sI_same]
        · rw [sI_slot _ _ _ _ (by omega)]; exact h v v0 (by omega)
      refine ⟨τ', ?_, a2⟩
      rw [f_M_laysFar_2_eq, show (12 : Int32) = zI 12 from zI_lit 12, if_pos (by rw [zI_le (by omega) (by decide)]; omega), bnd_zI x0 (by omega) (by omega), bnd_zI x0 (by omega) (by omega), ix_zI x0 (by omega), zI_0, show (1000000 : Int32) = zI 1000000 from zI_lit 1000000, show (1 : Int32) = zI 1 from zI_lit 1, zI_add]
      by_cases z : x = goal
      · rw [if_pos (congrArg zI z)]; rw [if_pos z] at a1; exact a1
      · rw [if_neg (by rw [zI_eq (by omega) (by omega)]; exact z)]; rw [if_neg z] at a1; exact a1
  obtain ⟨τ1, a1, a2, a3⟩ := init 12 0 σ (by decide) (by decide) (Fr.rf _ _) fun v v0 v1 => by omega
  obtain ⟨F, τ2, b1, b2⟩ := turns 12 0 (fun v => if v = goal then 0 else 1000000) τ1 (.int (zI goal)) .null .null (by decide) a2 a3 ⟨fun v v0 v1 => by
    show 0 ≤ (if v = goal then (0 : Int) else 1000000) ∧ (if v = goal then (0 : Int) else 1000000) ≤ 1000000
    split <;> omega, fun v v0 v1 h => by
    have h : (if v = goal then (0 : Int) else 1000000) < 1000000 := h
    show Rc _ _ _ (if v = goal then (0 : Int) else 1000000).toNat v
    by_cases z : v = goal
    · rw [if_pos z]; exact z
    · rw [if_neg z] at h; omega, fun L v Lt v0 v1 r => by
    show (if v = goal then (0 : Int) else 1000000) ≤ (L : Int)
    have : L = 0 := by omega
    subst this
    have r : v = goal := r
    rw [if_pos r]; exact Int.le_refl 0⟩
  refine ⟨F, τ2, ?_, b2⟩
  rw [f_M_laysFar_eq, zI_0, a1]
  exact b1
theorem kindFrom_sp {σ : Sg} {d : Nat} {n : Int} {W H C M : Int → Int} (hm : MR4 σ n W H C M) (hN : NmOk n W H C M) {F : Int → Int} (hF : ∀ v, 0 ≤ v → v < 12 → σ.1 132 v.toNat = zI (F v) ∧ 0 ≤ F v ∧ F v ≤ 1000000) {v kk : Int} (v0 : 0 ≤ v) (v1 : v < 2 * n) (k0 : 0 ≤ kk) (k8 : kk < 8) (ha : alC kk v = true) (he : F (nxt W H C M kk v) = F v - 1) (hl : ∀ k, 0 ≤ k → k < kk → ¬ (alC k v = true ∧ F (nxt W H C M k v) = F v - 1)) : f_M_kindFrom (d + 4) (zI v) σ = rI (zI kk) σ := by
  have n6 := hN.1
  have ev := hF v v0 (by omega)
  have main : ∀ (b : Nat) (k : Int), k + b = kk → 0 ≤ k → f_M_kindFrom_2 (d + 3) (zI v) (zI k) σ = rI (zI kk) σ := by
    intro b
    induction b with
    | zero =>
      intro k hk k0'
      have : k = kk := by omega
      subst this
      have st := stateBy_sp hm (d := d) (k := k) (v := v) k0 k8 v0 v1
      have ha' : canB k (v % 2) = true := ha
      have wb := nxt_bd hN (k := k) (v := v) k0 k8 v0 v1
      have ew := hF _ wb.1 (by omega)
      rw [if_pos ha'] at st
      rw [f_M_kindFrom_2_eq, st, cI_rI, show (-1 : Int32) = zI (-1) from rfl, if_neg (by rw [zI_eq (by omega) (by decide)]; omega), st, cI_rI, bnd_zI wb.1 (by omega) (by omega), bnd_zI v0 (by omega) (by omega), ix_zI wb.1 (by omega), ix_zI v0 (by omega), ew.1, ev.1, show (1 : Int32) = zI 1 from zI_lit 1, zI_sub, if_pos (congrArg zI he)]
    | succ b ih =>
      intro k hk k0'
      have st := stateBy_sp hm (d := d) (k := k) (v := v) k0' (by omega) v0 v1
      have ih := ih (k + 1) (by omega) (by omega)
      have nl := hl k k0' (by omega)
      cases ha' : canB k (v % 2) with
      | false =>
        rw [ha', if_neg Bool.false_ne_true] at st
        rw [f_M_kindFrom_2_eq, st, cI_rI, show (-1 : Int32) = zI (-1) from rfl, if_pos rfl, show (1 : Int32) = zI 1 from zI_lit 1, zI_add]
        exact ih
      | true =>
        have wb := nxt_bd hN (k := k) (v := v) k0' (by omega) v0 v1
        have ew := hF _ wb.1 (by omega)
        rw [if_pos ha'] at st
        have ne : ¬ F (nxt W H C M k v) = F v - 1 := fun z => nl ⟨ha', z⟩
        rw [f_M_kindFrom_2_eq, st, cI_rI, show (-1 : Int32) = zI (-1) from rfl, if_neg (by rw [zI_eq (by omega) (by decide)]; omega), st, cI_rI, bnd_zI wb.1 (by omega) (by omega), bnd_zI v0 (by omega) (by omega), ix_zI wb.1 (by omega), ix_zI v0 (by omega), ew.1, ev.1, show (1 : Int32) = zI 1 from zI_lit 1, zI_sub, if_neg (by rw [zI_eq (by omega) (by omega)]; exact ne), zI_add]
        exact ih
  rw [f_M_kindFrom_eq, zI_0]
  exact main kk.toNat 0 (by omega) (by decide)
