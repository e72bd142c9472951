/-! THE VILLAGE as numbers: 0 men, 6 women, 12 couples, 18 the year, 19 X, 20 weddings, 21 births, 22 deaths -/
def upI (v : Int → Int) (k x : Int) : Int → Int := fun j => if j = k then x else v j
theorem upI_same (v : Int → Int) (k x : Int) : upI v k x k = x := if_pos rfl
theorem upI_ne (v : Int → Int) {k j : Int} (x : Int) (h : j ≠ k) : upI v k x j = v j := if_neg h
def vSum (v : Int → Int) : Nat → Int
  | 0 => 0
  | k + 1 => vSum v k + (v (k : Int) + v (6 + (k : Int)) + 2 * v (12 + (k : Int)))
theorem vSum_congr {v u : Int → Int} : ∀ (k : Nat), (∀ x : Int, 0 ≤ x → x < k → v x = u x ∧ v (6 + x) = u (6 + x) ∧ v (12 + x) = u (12 + x)) → vSum v k = vSum u k
  | 0, _ => rfl
  | k + 1, h => by
    unfold vSum
    obtain ⟨e1, e2, e3⟩ := h k (by omega) (by omega)
    rw [vSum_congr k fun x x0 x1 => h x x0 (by omega), e1, e2, e3]
def vDraw (v : Int → Int) : Int → Int := upI v 19 ((25173 * v 19 + 13849) % 65536)
def vFac (W H v : Int → Int) (x : Int) (j : Int) : Int32 := zI (if j = 0 then x else if j = 1 then v x else if j = 2 then v (6 + W x) else if j = 3 then v (12 + x) else if j = 4 then v x + v (6 + x) + v (12 + x) + v (12 + H x) else if j = 5 then vSum v 6 else if j = 6 then v 18 % 100 else v 19 % 10)
def VB (n : Int) (v : Int → Int) : Prop := (∀ k, 0 ≤ k → k < 18 → 0 ≤ v k ∧ v k ≤ 9999) ∧ (∀ x, n ≤ x → 0 ≤ x → x < 6 → v x = 0 ∧ v (6 + x) = 0 ∧ v (12 + x) = 0) ∧ 0 ≤ v 18 ∧ v 18 ≤ 9999 ∧ 0 ≤ v 19 ∧ v 19 ≤ 65535
def VR (a : Nat) (v : Int → Int) (σ : Sg) : Prop := ∀ x : Int, 0 ≤ x → x < 6 → σ.1 (a + 1) x.toNat = zI (v x) ∧ σ.1 (a + 2) x.toNat = zI (v (6 + x)) ∧ σ.1 (a + 3) x.toNat = zI (v (12 + x))
def VC (a : Nat) (v : Int → Int) (σ : Sg) : Prop := VR a v σ ∧ σ.1 a 3 = zI (v 18) ∧ σ.1 a 4 = zI (v 19) ∧ σ.1 a 5 = zI (v 20) ∧ σ.1 a 6 = zI (v 21) ∧ σ.1 a 7 = zI (v 22)
def isV (a : Nat) : Prop := a = 87 ∨ a = 92
theorem isV.s0 {a : Nat} (h : isV a) : (SH a).1 = 8 := by rcases h with rfl | rfl <;> rfl
theorem isV.s1 {a : Nat} (h : isV a) : SH (a + 1) = (14, 6) := by rcases h with rfl | rfl <;> rfl
theorem isV.s2 {a : Nat} (h : isV a) : SH (a + 2) = (14, 6) := by rcases h with rfl | rfl <;> rfl
theorem isV.s3 {a : Nat} (h : isV a) : SH (a + 3) = (14, 6) := by rcases h with rfl | rfl <;> rfl
theorem isV.s4 {a : Nat} (h : isV a) : SH (a + 4) = (14, 8) := by rcases h with rfl | rfl <;> rfl
theorem isV.le {a : Nat} (h : isV a) : a = 87 ∨ a = 92 := h
theorem VR.fr {S : Nat → Nat → Bool} {a : Nat} {v : Int → Int} {σ σ' : Sg} (h : VR a v σ) (F : Fr S σ σ') (h1 : ∀ k, S (a + 1) k = false) (h2 : ∀ k, S (a + 2) k = false) (h3 : ∀ k, S (a + 3) k = false) : VR a v σ' := fun x x0 x6 => by
  rw [F.2 _ _ (h1 _), F.2 _ _ (h2 _), F.2 _ _ (h3 _)]; exact h x x0 x6
theorem stv_of {a n : Nat} {i : Int} {v : Int32} {σ : Sg} {K : Sg → Rs} (h : SH a = (14, n)) (h0 : 0 ≤ i) (h1 : i < n) (h2 : i < 2147483648) : stI a (zI i) v σ K = K (sI σ a i.toNat v) := stI_of h h0 h1 h2
theorem ru {σ : Sg} {r : Nat} {n : Int} (h : RuleAt σ r n) {x : Int} (h0 : 0 ≤ x) (h1 : x < n) : σ.1 (r + 1) x.toNat = zI (rd σ (r + 1) x) ∧ σ.1 (r + 2) x.toNat = zI (rd σ (r + 2) x) ∧ σ.1 (r + 3) x.toNat = zI (rd σ (r + 3) x) ∧ 0 ≤ rd σ (r + 1) x ∧ rd σ (r + 1) x < n ∧ 0 ≤ rd σ (r + 2) x ∧ rd σ (r + 2) x < n ∧ 0 ≤ rd σ (r + 3) x ∧ rd σ (r + 3) x < n ∧ n ≤ 6 := by
  obtain ⟨-, -, hn, h⟩ := h
  obtain ⟨⟨a1, a2, a3, a4, -, -⟩, b1, b2, -⟩ := h x h0 h1
  exact ⟨by rw [rd_k, toNat_c h0], by rw [rd_k, toNat_c h0], by rw [rd_k, toNat_c h0], a1, a2, a3, a4, b1, b2, hn⟩
theorem allOf_sp {σ : Sg} {a r : Nat} {n : Int} {v : Int → Int} (ha : (SH a).1 = 8) (s1 : SH (a + 1) = (14, 6)) (s2 : SH (a + 2) = (14, 6)) (s3 : SH (a + 3) = (14, 6)) (hv : VR a v σ) (hr : RuleAt σ r n) {d : Nat} {x : Int} (h0 : 0 ≤ x) (h1 : x < n) : f_Village_allOf (d + 1) a r (zI x) σ = rI (zI (v x + v (6 + x) + v (12 + x) + v (12 + rd σ (r + 2) x))) σ := by
  obtain ⟨w1, w2, w3, c1, c2, c3, c4, c5, c6, n6⟩ := ru hr h0 h1
  obtain ⟨e1, e2, e3⟩ := hv x h0 (by omega)
  obtain ⟨-, -, e4⟩ := hv _ c3 (by omega)
  have hr := hr.1
  rw [f_Village_allOf_eq, gfS_of ha, ofs_8_0, ldi_of s1 h0 (by omega) (by omega), e1, gfS_of ha, ofs_8_1, ldi_of s2 h0 (by omega) (by omega), e2, gfS_of ha, ofs_8_2, ldi_of s3 h0 (by omega) (by omega), e3, gfS_of ha, ofs_8_2, gfS_of hr.s0, ofs_6_2, ldi_of hr.s2 h0 (by omega) (by omega), w2, ldi_of s3 c3 (by omega) (by omega), e4, zI_add, zI_add, zI_add]
theorem all_sp {σ : Sg} {a : Nat} {v : Int → Int} (ha : (SH a).1 = 8) (s1 : SH (a + 1) = (14, 6)) (s2 : SH (a + 2) = (14, 6)) (s3 : SH (a + 3) = (14, 6)) (hv : VR a v σ) {d : Nat} : f_Village_all (d + 1) a σ = rI (zI (vSum v 6)) σ := by
  rw [f_Village_all_eq]
  have := zloop 6 (fun i (s : Int) => f_Village_all_4 d a (zI s) (zI i) σ) (fun i s => 0 ≤ i ∧ s = vSum v i.toNat) (fun o => o = rI (zI (vSum v 6)) σ) ?_ ?_ 0 0 (by decide) ⟨by decide, rfl⟩
  · exact this
  · rintro i s hi ⟨h0, rfl⟩
    refine Or.inr ⟨vSum v (i + 1).toNat, ?_, by omega, rfl⟩
    obtain ⟨e1, e2, e3⟩ := hv i h0 hi
    show f_Village_all_4 d a _ _ σ = _
    rw [f_Village_all_4_eq, zI_lit, if_pos (by rw [zI_le (by omega) (by decide)]; exact hi), gfS_of ha, ofs_8_0, ldi_of s1 h0 (by omega) (by omega), e1, gfS_of ha, ofs_8_1, ldi_of s2 h0 (by omega) (by omega), e2, gfS_of ha, ofs_8_2, ldi_of s3 h0 (by omega) (by omega), e3, zI_add, zI_lit, zI_mul, zI_add, zI_add, zI_lit, zI_add, show (i + 1).toNat = i.toNat + 1 by omega]
    show f_Village_all_4 d a (zI _) _ σ = f_Village_all_4 d a (zI (vSum v i.toNat + (v ((i.toNat : Nat) : Int) + v (6 + ((i.toNat : Nat) : Int)) + 2 * v (12 + ((i.toNat : Nat) : Int))))) _ σ
    rw [toNat_c h0]
  · rintro s ⟨-, rfl⟩
    show f_Village_all_4 d a _ _ σ = _
    rw [f_Village_all_4_eq, zI_lit, if_neg Int32.lt_irrefl]
    rfl
theorem leftMen_sp {σ : Sg} {r : Nat} {n : Int} {v : Int → Int} (hv : VR 87 v σ) (hr : RuleAt σ r n) {d : Nat} {x : Int} (h0 : 0 ≤ x) (h1 : x < n) : f_Village_leftMen (d + 1) 87 r (zI x) σ = rI (zI (v x - v (6 + rd σ (r + 1) x))) σ := by
  obtain ⟨w1, w2, w3, c1, c2, c3, c4, c5, c6, n6⟩ := ru hr h0 h1
  obtain ⟨e1, -, -⟩ := hv x h0 (by omega)
  obtain ⟨-, e4, -⟩ := hv _ c1 (by omega)
  have hr := hr.1
  have ha : (SH 87).1 = 8 := rfl
  rw [f_Village_leftMen_eq, gfS_of ha, ofs_8_0, ldi_of (n := 6) rfl h0 (by omega) (by omega), e1, gfS_of ha, ofs_8_1, gfS_of hr.s0, ofs_6_1, ldi_of hr.s1 h0 (by omega) (by omega), w1, ldi_of (n := 6) rfl c1 (by omega) (by omega), e4, zI_sub]
/-- what a year's step of the class changes -/
def SV (a : Nat) (b k : Nat) : Bool := (b == a && (k == 3 || k == 4 || k == 5 || k == 6 || k == 7)) || b == a + 1 || b == a + 2 || b == a + 3 || b == a + 4
theorem VC.fr {S : Nat → Nat → Bool} {a : Nat} {v : Int → Int} {σ σ' : Sg} (h : VC a v σ) (F : Fr S σ σ') (h1 : ∀ b k, SV a b k = true → b ≠ a + 4 → S b k = false) : VC a v σ' := by
  obtain ⟨h, a3, a4, a5, a6, a7⟩ := h
  refine ⟨h.fr F (fun k => h1 _ k (by simp [SV]) (by omega)) (fun k => h1 _ k (by simp [SV]) (by omega)) (fun k => h1 _ k (by simp [SV]) (by omega)), ?_, ?_, ?_, ?_, ?_⟩
  · rw [F.2 _ _ (h1 _ _ (by simp [SV]) (by omega))]; exact a3
  · rw [F.2 _ _ (h1 _ _ (by simp [SV]) (by omega))]; exact a4
  · rw [F.2 _ _ (h1 _ _ (by simp [SV]) (by omega))]; exact a5
  · rw [F.2 _ _ (h1 _ _ (by simp [SV]) (by omega))]; exact a6
  · rw [F.2 _ _ (h1 _ _ (by simp [SV]) (by omega))]; exact a7
theorem RuleAt.fr {S : Nat → Nat → Bool} {σ σ' : Sg} {r : Nat} {n : Int} (h : RuleAt σ r n) (F : Fr S σ σ') (hS : ∀ a k, DRule r a k = true → S a k = false) : RuleAt σ' r n ∧ rd σ' (r + 1) = rd σ (r + 1) ∧ rd σ' (r + 2) = rd σ (r + 2) ∧ rd σ' (r + 3) = rd σ (r + 3) ∧ rd σ' (r + 4) = rd σ (r + 4) ∧ rd σ' r = rd σ r := by
  have e : ∀ a, (∀ k, DRule r a k = true) → rd σ' a = rd σ a := fun a q => funext fun y => fr_rd F (hS a _ (q _))
  have e0 := e r (fun k => by simp [DRule])
  have e1 := e (r + 1) (fun k => by simp [DRule])
  have e2 := e (r + 2) (fun k => by simp [DRule])
  have e3 := e (r + 3) (fun k => by simp [DRule])
  have e4 := e (r + 4) (fun k => by simp [DRule])
  refine ⟨?_, e1, e2, e3, e4, e0⟩
  unfold RuleAt at h ⊢
  rw [e0, e1, e2, e3, e4]; exact h
theorem draw_sp {σ : Sg} {a r : Nat} {n : Int} {v : Int → Int} (ha : isV a) (hv : VC a v σ) (hb : VB n v) (hr : RuleAt σ r n) {d : Nat} {x : Int} (h0 : 0 ≤ x) (h1 : x < n) : ∃ σ', f_Village_draw (d + 3) a r (zI x) σ = rV σ' ∧ VC a (vDraw v) σ' ∧ (∀ j : Int, 0 ≤ j → j < 8 → σ'.1 (a + 4) j.toNat = vFac (rd σ (r + 1)) (rd σ (r + 2)) (vDraw v) x j) ∧ Fr (SV a) σ σ' := by
  have ha' := ha.le
  have hr' := hr.1.le
  have n6 : n ≤ 6 := hr.2.2.1
  obtain ⟨b1, b2, b3, b4, b5, b6⟩ := hb
  obtain ⟨hR, a3, a4, a5, a6, a7⟩ := hv
  obtain ⟨w1, w2, w3, c1, c2, c3, c4, c5, c6, -⟩ := ru hr h0 h1
  have hXr : 0 ≤ (25173 * v 19 + 13849) % 65536 ∧ (25173 * v 19 + 13849) % 65536 < 65536 := by omega
  have hD : ∀ k, k ≠ 19 → vDraw v k = v k := fun k h => upI_ne v _ h
  have hDX : vDraw v 19 = (25173 * v 19 + 13849) % 65536 := upI_same _ _ _
  generalize hX : (25173 * v 19 + 13849) % 65536 = X at hXr hDX
  -- the states
  have F1 : Fr (SV a) σ (sI σ a 4 (zI X)) := (Fr.rf _ σ).sI _ (by simp [SV])
  have F2 : Fr (SV a) σ (sI (sI σ a 4 (zI X)) (a + 4) 0 (zI x)) := F1.sI _ (by simp [SV])
  have F3 := F2.sI (zI (v x)) (show SV a (a + 4) 1 = true by simp [SV])
  have F4 := F3.sI (zI (v (6 + rd σ (r + 1) x))) (show SV a (a + 4) 2 = true by simp [SV])
  have F5 := F4.sI (zI (v (12 + x))) (show SV a (a + 4) 3 = true by simp [SV])
  have F6 := F5.sI (zI (v x + v (6 + x) + v (12 + x) + v (12 + rd σ (r + 2) x))) (show SV a (a + 4) 4 = true by simp [SV])
  have F7 := F6.sI (zI (vSum v 6)) (show SV a (a + 4) 5 = true by simp [SV])
  have F8 := F7.sI (zI (v 18 % 100)) (show SV a (a + 4) 6 = true by simp [SV])
  have F9 := F8.sI (zI (X % 10)) (show SV a (a + 4) 7 = true by simp [SV])
  have T : ∀ (τ : Sg) (k : Nat) (y : Int32), VR a v τ → VR a v (sI τ (a + 4) k y) := fun τ k y h x x0 x6 => by
    rw [sI_row _ _ _ _ _ (by omega), sI_row _ _ _ _ _ (by omega), sI_row _ _ _ _ _ (by omega)]; exact h x x0 x6
  have R1 : VR a v (sI σ a 4 (zI X)) := fun x x0 x6 => by
    rw [sI_row _ _ _ _ _ (by omega), sI_row _ _ _ _ _ (by omega), sI_row _ _ _ _ _ (by omega)]; exact hR x x0 x6
  generalize hs1 : sI σ a 4 (zI X) = s1 at F1 F2 F3 F4 F5 F6 F7 F8 F9 R1
  have R2 := T s1 0 (zI x) R1
  generalize hs2 : sI s1 (a + 4) 0 (zI x) = s2 at F2 F3 F4 F5 F6 F7 F8 F9 R2
  have R3 := T s2 1 (zI (v x)) R2
  generalize hs3 : sI s2 (a + 4) 1 (zI (v x)) = s3 at F3 F4 F5 F6 F7 F8 F9 R3
  have R4 := T s3 2 (zI (v (6 + rd σ (r + 1) x))) R3
  generalize hs4 : sI s3 (a + 4) 2 (zI (v (6 + rd σ (r + 1) x))) = s4 at F4 F5 F6 F7 F8 F9 R4
  have R5 := T s4 3 (zI (v (12 + x))) R4
  generalize hs5 : sI s4 (a + 4) 3 (zI (v (12 + x))) = s5 at F5 F6 F7 F8 F9 R5
  have R6 := T s5 4 (zI (v x + v (6 + x) + v (12 + x) + v (12 + rd σ (r + 2) x))) R5
  generalize hs6 : sI s5 (a + 4) 4 (zI (v x + v (6 + x) + v (12 + x) + v (12 + rd σ (r + 2) x))) = s6 at F6 F7 F8 F9 R6
  have R7 := T s6 5 (zI (vSum v 6)) R6
  generalize hs7 : sI s6 (a + 4) 5 (zI (vSum v 6)) = s7 at F7 F8 F9 R7
  have R8 := T s7 6 (zI (v 18 % 100)) R7
  generalize hs8 : sI s7 (a + 4) 6 (zI (v 18 % 100)) = s8 at F8 F9 R8
  have R9 := T s8 7 (zI (X % 10)) R8
  generalize hs9 : sI s8 (a + 4) 7 (zI (X % 10)) = s9 at F9 R9
  have DR : ∀ b k, DRule r b k = true → SV a b k = false := by intro b k; simp [DRule, SV]; omega
  obtain ⟨hr5, -, q2, -⟩ := hr.fr F5 DR
  have g1 := (R2 x h0 (by omega)).1
  have g2 : s3.1 (r + 1) x.toNat = zI (rd σ (r + 1) x) := by rw [F3.2 _ _ (DR _ _ (by simp [DRule])), w1]
  have g3 := (R3 _ c1 (by omega)).2.1
  have g4 := (R4 x h0 (by omega)).2.2
  have g5 := allOf_sp ha.s0 ha.s1 ha.s2 ha.s3 R5 hr5 (d := d + 1) h0 h1
  rw [q2] at g5
  have g6 := all_sp ha.s0 ha.s1 ha.s2 ha.s3 R6 (d := d + 1)
  have z4 : ∀ (τ : Sg) (k : Nat) (y : Int32), (sI τ (a + 4) k y).1 a 4 = τ.1 a 4 ∧ (sI τ (a + 4) k y).1 a 3 = τ.1 a 3 ∧ (sI τ (a + 4) k y).1 a 5 = τ.1 a 5 ∧ (sI τ (a + 4) k y).1 a 6 = τ.1 a 6 ∧ (sI τ (a + 4) k y).1 a 7 = τ.1 a 7 := fun τ k y => ⟨sI_row _ _ _ _ _ (by omega), sI_row _ _ _ _ _ (by omega), sI_row _ _ _ _ _ (by omega), sI_row _ _ _ _ _ (by omega), sI_row _ _ _ _ _ (by omega)⟩
  have y1 : s1.1 a 4 = zI X ∧ s1.1 a 3 = zI (v 18) ∧ s1.1 a 5 = zI (v 20) ∧ s1.1 a 6 = zI (v 21) ∧ s1.1 a 7 = zI (v 22) := by
    rw [← hs1]
    refine ⟨sI_same _ _ _ _, ?_, ?_, ?_, ?_⟩
    · rw [sI_slot _ _ _ _ (by decide)]; exact a3
    · rw [sI_slot _ _ _ _ (by decide)]; exact a5
    · rw [sI_slot _ _ _ _ (by decide)]; exact a6
    · rw [sI_slot _ _ _ _ (by decide)]; exact a7
  have cp : ∀ {s t : Sg} {k : Nat} {y : Int32}, sI s (a + 4) k y = t → (s.1 a 4 = zI X ∧ s.1 a 3 = zI (v 18) ∧ s.1 a 5 = zI (v 20) ∧ s.1 a 6 = zI (v 21) ∧ s.1 a 7 = zI (v 22)) → t.1 a 4 = zI X ∧ t.1 a 3 = zI (v 18) ∧ t.1 a 5 = zI (v 20) ∧ t.1 a 6 = zI (v 21) ∧ t.1 a 7 = zI (v 22) := fun {s t k y} e h => by
    obtain ⟨p1, p2, p3, p4, p5⟩ := z4 s k y
    rw [← e, p1, p2, p3, p4, p5]; exact h
  have y7 := cp hs7 (cp hs6 (cp hs5 (cp hs4 (cp hs3 (cp hs2 y1)))))
  have y8 := cp hs8 y7
  have y9 := cp hs9 y8
  refine ⟨s9, ?_, ⟨fun x x0 x6 => ?_, ?_, ?_, ?_, ?_, ?_⟩, fun j j0 j8 => ?_, F9⟩
  · have p0 := ha.s0; have p1 := ha.s1; have p2 := ha.s2; have p3 := ha.s3; have p4 := ha.s4
    have q0 := hr.1.s0; have q1 := hr.1.s1
    have m3 : s2.1 (a + 1) x.toNat = zI (v x) := g1
    have k7 : s7.1 a 3 = zI (v 18) := y7.2.1
    have k8 : s8.1 a 4 = zI X := y8.1
    rw [f_Village_draw_eq]
    simp (disch := first | assumption | omega) only [cI_rI, cV_rV, cJ_rJ, rZ_0, rZ_1, rZ_z0, rZ_z1, zI_lit, zI_ofNat, zI_add, zI_sub, zI_mul, zI_neg, Int.cast_ofNat_Int, Int.reduceNeg, Int.reduceAdd, Int.reduceSub, Int.reduceMul, ofs_0_0, ofs_0_1, ofs_0_2, ofs_0_3, ofs_0_4, ofs_1_0, ofs_1_1, ofs_1_2, ofs_1_3, ofs_1_4, ofs_1_5, ofs_2_1, ofs_2_2, ofs_2_3, ofs_2_4, ofs_2_6, ofs_2_7, ofs_2_8, ofs_3_0, ofs_3_1, ofs_3_2, ofs_3_3, ofs_4_1, ofs_4_2, ofs_4_3, ofs_4_4, ofs_4_5, ofs_4_6, ofs_4_7, ofs_5_1, ofs_5_2, ofs_5_3, ofs_5_4, ofs_5_6, ofs_6_1, ofs_6_2, ofs_6_3, ofs_6_4, ofs_7_0, ofs_8_0, ofs_8_1, ofs_8_2, ofs_8_8, ofs_9_1, ofs_9_2, ofs_9_4, ofs_9_5, ofs_9_6, ofs_10_0, ofs_10_7, ofs_10_8, ofs_10_9, ofs_10_10, ofs_10_11, ofs_10_12, ofs_10_13, ofs_10_14, ofs_10_15, ofs_11_0, ofs_11_1, ofs_11_2, ofs_11_3, ofs_11_4, ofs_11_6, ofs_11_17, ofs_11_18, ofs_11_19, ofs_11_20, ofs_11_21, ofs_11_22, ofs_11_23, ofs_11_24, ofs_11_25, ofs_11_26, ofs_11_27, ofs_11_28, ofs_11_29, ofs_11_30, ofs_11_31, ofs_11_33, ofs_11_34, ofs_11_35, ofs_11_36, ofs_11_37, ofs_11_43, ofs_11_44, ofs_11_45, ofs_11_47, ofs_11_48, ofs_11_49, ofs_11_50, ofs_11_51, ofs_11_52, ofs_11_54, ofs_11_55, ofs_11_56, ofs_11_57, ofs_11_59, ofs_11_60, ofs_11_61, ofs_11_62, ofs_11_63, ofs_11_64, ofs_11_65, ofs_11_66, ofs_11_67, ofs_11_68, ofs_11_71, ofs_11_74, ofs_11_75, ofs_11_76, ofs_11_77, ofs_11_78, Int.reduceToNat, gfI_of, gfS_of, gdK_of, a4, rmI_nn, hX, pfI_of, hs1, stI_of, hs2, ldI_of, m3, hs3, g2, g3, hs4, g4, hs5, g5, hs6, g6, hs7, k7, hs8, k8, hs9]
  · rw [hD x (by omega), hD (6 + x) (by omega), hD (12 + x) (by omega)]; exact R9 x x0 x6
  · rw [hD 18 (by decide)]; exact y9.2.1
  · rw [hDX]; exact y9.1
  · rw [hD 20 (by decide)]; exact y9.2.2.1
  · rw [hD 21 (by decide)]; exact y9.2.2.2.1
  · rw [hD 22 (by decide)]; exact y9.2.2.2.2
  · rcases (show j = 0 ∨ j = 1 ∨ j = 2 ∨ j = 3 ∨ j = 4 ∨ j = 5 ∨ j = 6 ∨ j = 7 by omega) with e | e | e | e | e | e | e | e <;> subst e
    all_goals simp (disch := first | assumption | omega) only [Int.reduceToNat, ← hs9, ← hs8, ← hs7, ← hs6, ← hs5, ← hs4, ← hs3, ← hs2, sI_same, sI_slot]
    all_goals unfold vFac
    all_goals simp (disch := first | assumption | omega) only [rd_k, toNat_c, Int.reduceEq, Int.reduceLT, Int.reduceNe, if_true, if_false, reduceIte, Nat.reduceAdd, hD, hDX]
    exact congrArg zI ((vSum_congr 6 fun k h0 h1 => ⟨(hD _ (by omega)).symm, (hD _ (by omega)).symm, (hD _ (by omega)).symm⟩))
