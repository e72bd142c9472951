/-! rule -/
theorem begins_sp {υ : Sg} {d : Nat} {n : Int} : ∃ υ1, f_M_beginsText (d + 1) (zI 0) (zI n) υ = rV υ1 ∧ Fr SMk υ υ1 ∧ υ1.1 102 8 = zI 0 ∧ υ1.1 102 9 = zI n := by
  refine ⟨_, f_M_beginsText_eq d (zI 0) (zI n) υ, ((((Fr.rf _ _).sI _ rfl).sI _ rfl).sI _ rfl).sI _ rfl, rfl, ?_⟩
  show zI 0 + zI n = zI n
  rw [zI_add, Int.zero_add]
theorem rI_two {a b : Int32} {s t : Sg} (e : rI a s = rI b t) : a = b ∧ s = t := by
  injection e with e; injection e with e1 e2; exact ⟨by injection e1 with e1; injection e1, e2⟩
theorem ruleRun {σ υ : Sg} {r p l : Nat} (h : Inv r p l σ) {n : Int} (qn : 1 ≤ n ∧ n ≤ 20 ∧ n ≤ rd σ 5 1) (h108 : ∀ k, υ.1 108 k = σ.1 108 k) (h143 : ∀ k, υ.1 143 k = σ.1 143 k) (h102 : ∀ k, υ.1 102 k = σ.1 102 k) : ∃ (v : Int) (σ' τ' : Sg), -100000 < v ∧ v < 100 ∧ f_N_rule 100 (zI n) σ = rI (zI v) σ' ∧ f_M_rule 100 (zI n) υ = rI (zI v) τ' ∧ ((∀ k, σ'.1 108 k = σ.1 108 k) ∧ (∀ k, σ'.1 143 k = σ.1 143 k) ∧ ∀ k, σ'.1 102 k = σ.1 102 k) ∧ (υ = σ' → ∃ r', Inv r' p l τ') := by
  obtain ⟨t0, t1, t2, t3⟩ := h.2.1
  have hb := h.bits
  have hr : r = 7 ∨ r = 12 := hb.1
  have hp : p = 17 ∨ p = 25 := hb.2.1
  have hP := h.1.2.1
  have tb : ∀ j, 0 ≤ j → j < n → 0 ≤ rd σ 6 j ∧ rd σ 6 j < 256 := fun j j0 j1 => by have := t3 j j0 (by omega); omega
  have et := take_sp (σ := σ) (d := 98) (f := 0) (n := n)
  have F1 : Fr (fun x _ => x == 5) σ (sI (sI (sI (sI σ 5 2 (zI 0)) 5 3 (zI n)) 5 4 (zI 0)) 5 1 (zI 0)) := ((((Fr.rf _ σ).sI _ rfl).sI _ rfl).sI _ rfl).sI _ rfl
  have x1 : (sI (sI (sI (sI σ 5 2 (zI 0)) 5 3 (zI n)) 5 4 (zI 0)) 5 1 (zI 0)).1 5 1 = zI 0 := rfl
  have hC : CT 0 n (rd σ 6) (sI (sI (sI (sI σ 5 2 (zI 0)) 5 3 (zI n)) 5 4 (zI 0)) 5 1 (zI 0)) := ⟨rfl, rfl, fun j j0 j1 => by
    rw [Int.zero_add]
    show σ.1 6 j.toNat = _
    rw [rd_k, toNat_c j0]⟩
  have x4 : (sI (sI (sI (sI σ 5 2 (zI 0)) 5 3 (zI n)) 5 4 (zI 0)) 5 1 (zI 0)).1 5 4 = zI 0 := rfl
  generalize sI (sI (sI (sI σ 5 2 (zI 0)) 5 3 (zI n)) 5 4 (zI 0)) 5 1 (zI 0) = σ1 at F1 x1 x4 et hC
  obtain ⟨υ1, bt, B1, e8, e9⟩ := begins_sp (υ := υ) (d := 98) (n := n)
  have hMT : MT 0 n (rd σ 6) υ1 := fun j j0 j1 => by rw [Int.zero_add, B1.2 108 _ rfl, h108]; exact (t3 j j0 (by omega)).2.2
  have hq : isR (19 - r) := by rcases hr with rfl | rfl <;> simp [isR]
  obtain ⟨iR, iP, iL, c41, c42, c43, c44, c45, c46, c61⟩ := id h.1
  obtain ⟨v, k, v0, v1, ⟨σ2, a1, a2, a3⟩, τ2, b1, b2, b3, b4⟩ := readBoth hq (n := n) (T := rd σ 6) (by omega) qn.2.1 tb (σ1 := σ1) (τ0 := υ1) (d := 95) (d2 := 95) hC x4 hMT e8 e9
  have q42 : σ1.2.2 4 2 = 19 - r := by rw [F1.1]; exact h.1.2.2.2.2.1
  have vz : (zI v = 0) = (v = 0) := by rw [zI_0]; exact zI_eq (by omega) (by decide)
  have rN : f_N_rule 100 (zI n) σ = if v = 0 then (cV (f_Village_clear 99 87 (sR (sR σ2 4 1 (σ2.2.2 4 2)) 4 2 (σ2.2.2 4 1))) fun σ8 => gfI 6 (σ8.2.2 4 1) 0 σ8 fun v9 => gdK 4 (σ8.2.2 4 3) (cV (f_Roll_forgetNamesFrom 99 (σ8.2.2 4 3) v9 σ8) fun σ10 => cV (f_Houses_settle 99 (σ10.2.2 4 1) (σ10.2.2 4 3) σ10) fun σ11 => gfI 6 (σ11.2.2 4 1) 0 σ11 fun v12 => rI v12 σ11)) else rI (zI v) σ2 := by
    have a1 : f_Rule_read 99 (19 - r) σ1 = rI (zI v) σ2 := a1
    have et : f_Tape_take 99 (zI 0) (zI n) σ = rV σ1 := et
    have tN := isTapeHas (σ := σ) (d := 98) (a := n) (m := 20) (by decide) (by omega)
    rw [f_N_rule_eq, show (20 : Int32) = zI 20 from zI_lit 20, tN, cI_rI, decide_eq_true qn, bz_tt, if_neg (by decide), zI_0, et, cV_rV, q42, gdK_of hq.s0, a1, cI_rI, ← zI_0]
    by_cases z : v = 0
    · rw [if_pos (by rw [vz]; exact z), if_pos z]
    · rw [if_neg (by rw [vz]; exact z), if_neg z]
  have u7 : υ.1 102 7 = zI (rd σ 5 1) := by rw [h102, ← t2]; exact rd_k σ 102 7
  have rM : f_M_rule 100 (zI n) υ = if v < 0 then rI ((sI τ2 102 7 0).1 102 10) (sI τ2 102 7 0) else f_M_rule_70 99 (.int (zI n)) (.int 1) 0 (sI (sI τ2 102 7 0) 102 5 ((sI τ2 102 7 0).1 102 32)) := by
    have bt : f_M_beginsText 99 0 (zI n) υ = rV υ1 := bt
    have iM : f_M_in 99 (zI n) 1 20 υ = rI (bz true) υ := by
      rw [show (1 : Int32) = zI 1 from zI_lit 1, show (20 : Int32) = zI 20 from zI_lit 20, in_sp (by omega) (by decide) (by decide), decide_eq_true (show 1 ≤ n ∧ n ≤ 20 by omega)]
    rw [f_M_rule_eq, iM, cI_rI, bz_tt, if_neg (by decide), u7, if_neg (by rw [zI_le (by omega) (by omega)]; omega), bt, cV_rV]
    refine (b1 _ _).trans ?_
    by_cases z : v < 0
    · rw [if_pos z, if_pos z]
      dsimp only
      rw [if_pos (show (0 : Int32) = 0 from rfl)]
    · rw [if_neg z, if_neg z]
      dsimp only
      rw [if_neg (show ¬ (1 : Int32) = 0 by decide)]
  have keep : ∀ a, (a = 108 ∨ a = 143 ∨ a = 102) → ∀ j, σ2.1 a j = σ.1 a j := fun a q j => (a2.2 a j (by rcases hr with rfl | rfl <;> rcases q with rfl | rfl | rfl <;> rfl)).trans (F1.2 a j (by rcases q with rfl | rfl | rfl <;> rfl))
  have e51 : σ2.1 5 1 = zI 0 := (a2.2 5 1 (by rcases hr with rfl | rfl <;> rfl)).trans x1
  rcases v1 with v1 | ⟨v1, k2, k6, oW, oC⟩
  · refine ⟨v, σ2, sI τ2 102 7 0, v0, by omega, by rw [rN, if_neg (by omega)], by rw [rM, if_pos v1, sI_slot _ _ _ _ (by decide), b3 v1], ⟨keep _ (Or.inl rfl), keep _ (Or.inr (Or.inl rfl)), keep _ (Or.inr (Or.inr rfl))⟩, fun e => ⟨r, ?_⟩⟩
    subst e
    have F : Fr (fun a k => spR r a || (a == 5 || SMk a k || (a == 102 && k == 7))) σ (sI τ2 102 7 0) := by
      refine (FrU F1 ((a2.mono (S := SRk (19 - r)) (T := fun a k => spR r a || (a == 5 || SMk a k || (a == 102 && k == 7))) ?_).tr ((B1.tr b2).mono ?_)) ?_).sI _ (by simp)
      · intro a k
        rcases hr with rfl | rfl
        all_goals simp [spR, SRk]; omega
      · intro a k e
        simp only [Bool.or_eq_false_iff] at e
        exact e.2.1.2
      · intro a k e
        refine ⟨?_, e⟩
        simp only [Bool.or_eq_false_iff] at e
        exact e.2.1.1
    obtain ⟨σ7, G1, G2⟩ := F.cut
    refine (h.spare G1).took G2 ?_ ?_ (by rcases hb.2.2 with rfl | rfl <;> rfl) (by rcases hb.2.2 with rfl | rfl <;> repeat (first | exact trivial | refine ⟨fun _ => rfl, ?_⟩ | refine ⟨rfl, ?_⟩)) ?_ (rd_of (x := 7) (v := 0) ((sI_same _ _ _ _).trans zI_0) (by decide) (by decide))
    · repeat (first | exact trivial | refine ⟨fun _ => rfl, ?_⟩ | refine ⟨rfl, ?_⟩)
    · repeat (first | exact trivial | refine ⟨fun _ => rfl, ?_⟩ | refine ⟨rfl, ?_⟩)
    · refine rd_of (x := 1) ?_ (by decide) (by decide)
      rw [sI_row _ _ _ _ _ (by decide)]
      exact (b2.2 5 1 rfl).trans ((B1.2 5 1 rfl).trans e51)
  · subst v1
    obtain ⟨n1, n2, ⟨n3, n3'⟩, n4⟩ := h.n
    obtain ⟨ok, e69, rows, -⟩ := h.2.2.2.1
    obtain ⟨m0, m24, okp⟩ := id ok
    obtain ⟨ek, rowk⟩ := a3 rfl
    obtain ⟨ek32, rowM⟩ := b4 rfl
    have r2 : σ2.2.2 = σ.2.2 := a2.1.trans F1.1
    rw [if_pos rfl] at rN
    rw [if_neg (by decide)] at rM
    have s3 : (sR (sR σ2 4 1 (σ2.2.2 4 2)) 4 2 (σ2.2.2 4 1)).1 = σ2.1 := rfl
    have s41 : (sR (sR σ2 4 1 (σ2.2.2 4 2)) 4 2 (σ2.2.2 4 1)).2.2 4 1 = 19 - r := by
      show σ2.2.2 4 2 = 19 - r
      rw [r2]; exact c42
    have s42 : (sR (sR σ2 4 1 (σ2.2.2 4 2)) 4 2 (σ2.2.2 4 1)).2.2 4 2 = r := by
      show σ2.2.2 4 1 = r
      rw [r2]; exact c41
    have s4o : ∀ b j, ¬ (b = 4 ∧ (j = 1 ∨ j = 2)) → (sR (sR σ2 4 1 (σ2.2.2 4 2)) 4 2 (σ2.2.2 4 1)).2.2 b j = σ.2.2 b j := fun b j q => by rw [sR_2, if_neg (by omega), sR_2, if_neg (by omega), r2]
    generalize sR (sR σ2 4 1 (σ2.2.2 4 2)) 4 2 (σ2.2.2 4 1) = σ3 at s3 s41 s42 s4o rN
    obtain ⟨σ4, cl, cz, K4⟩ := clear_sp (a := 87) (Or.inl rfl) (σ := σ3) (d := 97)
    have k2a : ∀ a j, (spR r a || a == 5) = false → σ2.1 a j = σ.1 a j := fun a j e => by
      simp only [Bool.or_eq_false_iff] at e
      refine (a2.2 a j ?_).trans (F1.2 a j e.2)
      revert e
      rcases hr with rfl | rfl
      all_goals simp [spR, SRk]; omega
    have k4 : ∀ a j, (spR r a || (a == 5 || a == 88 || a == 89 || a == 90)) = false → σ4.1 a j = σ.1 a j := fun a j e => by
      simp only [Bool.or_eq_false_iff] at e
      refine (K4.2 a j ?_).trans (by rw [s3]; exact k2a a j (by rw [e.1, e.2.1.1.1]; rfl))
      simp only [Bool.or_eq_false_iff]
      exact ⟨⟨e.2.1.1.2, e.2.1.2⟩, e.2.2⟩
    have kq : ∀ a j, (a = 19 - r ∨ a = 19 - r + 1 ∨ a = 19 - r + 2 ∨ a = 19 - r + 3 ∨ a = 19 - r + 4) → σ4.1 a j = σ2.1 a j := fun a j q => (K4.2 a j (by rcases hr with rfl | rfl <;> rcases q with rfl | rfl | rfl | rfl | rfl <;> rfl)).trans (by rw [s3])
    have kp : ∀ a j, (a = p ∨ a = p + 1 ∨ a = p + 2 ∨ a = p + 3 ∨ a = p + 4 ∨ a = p + 5) → σ4.1 a j = σ.1 a j := fun a j q => k4 a j (by rcases hp with rfl | rfl <;> rcases hr with rfl | rfl <;> rcases q with rfl | rfl | rfl | rfl | rfl | rfl <;> rfl)
    have tT : ∀ x, 0 ≤ x → x < rd σ p 0 → -1 ≤ rd σ (p + 2) x ∧ rd σ (p + 2) x ≤ 6 := fun x x0 x1 => by
      have := (okp x x0 x1).2
      omega
    obtain ⟨σ5, fg, K5, z5⟩ := forget_sp hP (m := rd σ p 0) (k := k) m0 m24 (by omega) (σ := σ4) (by rw [kp _ _ (Or.inl rfl)]; exact rd_k σ p 0) (T := rd σ (p + 2)) (fun x x0 x1 => ⟨by rw [kp _ _ (Or.inr (Or.inr (Or.inl rfl))), rd_k, toNat_c x0], tT x x0 x1⟩) (d := 98)
    have k5 : ∀ a j, a ≠ p + 2 → σ5.1 a j = σ4.1 a j := fun a j e => K5.2 a j (by simp [S18]; exact e)
    have kq5 : ∀ a j, (a = 19 - r ∨ a = 19 - r + 1 ∨ a = 19 - r + 2 ∨ a = 19 - r + 3 ∨ a = 19 - r + 4) → σ5.1 a j = σ2.1 a j := fun a j q => (k5 a j (by omega)).trans (kq a j q)
    have kp5 : ∀ a j, (a = p ∨ a = p + 1 ∨ a = p + 3 ∨ a = p + 4 ∨ a = p + 5) → σ5.1 a j = σ.1 a j := fun a j q => (k5 a j (by omega)).trans (kp a j (by omega))
    have rdp : ∀ a, (a = p ∨ a = p + 1 ∨ a = p + 3 ∨ a = p + 4 ∨ a = p + 5) → rd σ5 a = rd σ a := fun a q => funext fun y => by unfold rd; rw [kp5 a _ q]
    have bW : ∀ x, 0 ≤ x → x < k → 0 ≤ rd σ 6 x - 97 ∧ rd σ 6 x - 97 < k := oW.1
    have bC : ∀ x, 0 ≤ x → x < k → 0 ≤ rd σ 6 (k + 1 + x) - 97 ∧ rd σ 6 (k + 1 + x) - 97 < k := oC.1
    have nm : NmOk k (rd σ5 (19 - r + 1)) (rd σ5 (19 - r + 2)) (rd σ5 (19 - r + 3)) (rd σ5 (19 - r + 4)) := by
      have rW : ∀ x, 0 ≤ x → x < k → rd σ5 (19 - r + 1) x = rd σ 6 x - 97 := fun x x0 x1 => rd_of ((kq5 _ _ (by simp)).trans (rowk x x0 x1).1) (by have := bW x x0 x1; omega) (by have := bW x x0 x1; omega)
      have rC : ∀ x, 0 ≤ x → x < k → rd σ5 (19 - r + 3) x = rd σ 6 (k + 1 + x) - 97 := fun x x0 x1 => rd_of ((kq5 _ _ (by simp)).trans (rowk x x0 x1).2.1) (by have := bC x x0 x1; omega) (by have := bC x x0 x1; omega)
      have rH : ∀ x, 0 ≤ x → x < k → rd σ5 (19 - r + 2) (rd σ 6 x - 97) = x := fun x x0 x1 => rd_of ((kq5 _ _ (by simp)).trans (rowk x x0 x1).2.2.1) (by omega) (by omega)
      have rM : ∀ x, 0 ≤ x → x < k → rd σ5 (19 - r + 4) (rd σ 6 (k + 1 + x) - 97) = x := fun x x0 x1 => rd_of ((kq5 _ _ (by simp)).trans (rowk x x0 x1).2.2.2) (by omega) (by omega)
      exact nmOk_of k6 ⟨fun x x0 x1 => by rw [rW x x0 x1]; exact oW.1 x x0 x1, fun x y x0 x1 y0 y1 e => by rw [rW x x0 x1, rW y y0 y1] at e; exact oW.2 x y x0 x1 y0 y1 e⟩ ⟨fun x x0 x1 => by rw [rC x x0 x1]; exact oC.1 x x0 x1, fun x y x0 x1 y0 y1 e => by rw [rC x x0 x1, rC y y0 y1] at e; exact oC.2 x y x0 x1 y0 y1 e⟩ fun x x0 x1 => by rw [rW x x0 x1, rC x x0 x1]; exact ⟨rH x x0 x1, rM x x0 x1⟩
    have rk : rd σ5 (19 - r) 0 = k := rd_of (x := 0) ((kq5 _ _ (by simp)).trans ek) (by omega) (by omega)
    have okT : RlOk k (rd σ5 p 0) (rd σ5 (p + 1)) (rd σ5 (p + 2)) (rd σ5 (p + 3)) (rd σ5 (p + 4)) (rd σ5 (p + 5)) := by
      rw [rdp p (by simp), rdp (p + 1) (by simp), rdp (p + 3) (by simp), rdp (p + 4) (by simp), rdp (p + 5) (by simp)]
      refine ⟨m0, m24, fun x x0 x1 => ?_⟩
      obtain ⟨o1, o2, o3, o4⟩ := okp x x0 x1
      have t := tT x x0 x1
      have : rd σ5 (p + 2) x = if rd σ (p + 2) x < k then rd σ (p + 2) x else -1 := rd_of (z5 x x0 x1) (by split <;> omega) (by split <;> omega)
      rw [this]
      refine ⟨o1, ?_, ?_, o4⟩ <;> split <;> omega
    have rcl : ∀ a : Nat, ∀ x : Int, 0 ≤ x → σ5.1 a x.toNat = zI (rd σ5 a x) := fun a x x0 => by rw [rd_k, toNat_c x0]
    have hx : PX (19 - r) p k (rd σ5 p 0) (rd σ5 (19 - r + 1)) (rd σ5 (19 - r + 2)) (rd σ5 (19 - r + 3)) (rd σ5 (19 - r + 4)) (rd σ5 (p + 1)) (rd σ5 (p + 2)) (rd σ5 (p + 3)) (rd σ5 (p + 4)) (rd σ5 (p + 5)) σ5 := ⟨hP, ⟨hq, rk, nm⟩, by omega, ⟨rfl, rfl, rfl, rfl⟩, ⟨hP, rfl, fun x x0 => ⟨rcl _ x x0, rcl _ x x0, rcl _ x x0, rcl _ x x0, rcl _ x x0⟩⟩, okT⟩
    obtain ⟨σ6, se, K6, hO⟩ := settle_sp hx (d := 94)
    have rows6 : ∀ a j, SHo a 0 = false → σ6.1 a j = σ5.1 a j := fun a j e => K6.2 a j e
    have hH6 : IHou (19 - r) p σ6 := by
      have e : ∀ a, SHo a 0 = false → rd σ6 a = rd σ5 a := fun a q => funext fun y => fr_rd K6 q
      have eq : ∀ a, (a = 19 - r ∨ a = 19 - r + 1 ∨ a = 19 - r + 2 ∨ a = 19 - r + 4) → rd σ6 a = rd σ5 a := fun a q => e a (by rcases hr with rfl | rfl <;> rcases q with rfl | rfl | rfl | rfl <;> rfl)
      have ep : ∀ a, (a = p ∨ a = p + 1 ∨ a = p + 2 ∨ a = p + 3 ∨ a = p + 4 ∨ a = p + 5) → rd σ6 a = rd σ5 a := fun a q => e a (by rcases hp with rfl | rfl <;> rcases q with rfl | rfl | rfl | rfl | rfl | rfl <;> rfl)
      unfold IHou
      rw [eq (19 - r) (by simp), eq (19 - r + 1) (by simp), eq (19 - r + 2) (by simp), eq (19 - r + 4) (by simp), ep p (by simp), ep (p + 1) (by simp), ep (p + 2) (by simp), ep (p + 3) (by simp), ep (p + 4) (by simp), ep (p + 5) (by simp), rk]
      exact hO
    have g4 : σ4.2.2 = σ3.2.2 := K4.1
    have g5 : σ5.2.2 = σ3.2.2 := K5.1.trans g4
    have g6 : σ6.2.2 = σ3.2.2 := K6.1.trans g5
    have p43 : σ3.2.2 4 3 = p := (s4o 4 3 (by omega)).trans c43
    have eN : f_N_rule 100 (zI n) σ = rI (zI k) σ6 := by
      have cl : f_Village_clear 99 87 σ3 = rV σ4 := cl
      have fg : f_Roll_forgetNamesFrom 99 p (zI k) σ4 = rV σ5 := fg
      have se : f_Houses_settle 99 (19 - r) p σ5 = rV σ6 := se
      rw [rN, cl, cV_rV, g4, s41, gfI_of hq.s0, kq _ _ (Or.inl rfl), ek, p43, gdK_of hP.s0, fg, cV_rV, g5, s41, p43, se, cV_rV, g6, s41, gfI_of hq.s0, rows6 _ _ (by rcases hr with rfl | rfl <;> rfl), kq5 _ _ (Or.inl rfl), ek]
    -- the reference
    have u1 : ∀ a j, (a = 108 ∨ a = 143 ∨ a = 102 ∧ (j = 69)) → τ2.1 a j = σ.1 a j := fun a j q => ((B1.tr b2).2 a j (by rcases q with rfl | rfl | ⟨rfl, rfl⟩ <;> rfl)).trans (by rcases q with rfl | rfl | ⟨rfl, rfl⟩ <;> first | exact h108 _ | exact h143 _ | exact h102 _)
    generalize hs3 : sI (sI τ2 102 7 0) 102 5 ((sI τ2 102 7 0).1 102 32) = τ3 at rM
    have t3a : ∀ a j, ¬ (a = 102 ∧ (j = 7 ∨ j = 5)) → τ3.1 a j = τ2.1 a j := fun a j q => by
      rw [← hs3, sI_1, if_neg (by omega), sI_1, if_neg (by omega)]
    have t35 : τ3.1 102 5 = zI k := by
      rw [← hs3, sI_same, sI_slot _ _ _ _ (by decide)]; exact ek32
    have t37 : τ3.1 102 7 = zI 0 := by rw [← hs3, sI_slot _ _ _ _ (by decide), sI_same]; rfl
    have t32 : τ3.2.2 = τ2.2.2 := by rw [← hs3]; rfl
    obtain ⟨τ', re, K7, h106, hz, h143'⟩ := ruleEnd_sp (τ := τ3) (k := k) (m := rd σ p 0) (by omega) k6 m0 m24 t35 (by rw [t3a _ _ (by omega), u1 102 69 (by simp), ← e69]; exact rd_k σ 102 69) (W := fun x => rd σ 6 x - 97) (C := fun x => rd σ 6 (k + 1 + x) - 97) (fun x x0 x1 => by rw [t3a _ _ (by omega)]; exact (rowM x x0 x1).1) (fun x x0 x1 => by rw [t3a _ _ (by omega)]; exact (rowM x x0 x1).2) (T := rd σ (p + 2)) (fun x x0 x1 => ⟨by rw [t3a _ _ (by omega), u1 143 _ (by simp), rd_k, toNat_c x0, (rows x x0 x1).2.1], tT x x0 x1⟩) (d := 99) (v1 := .int (zI n)) (v2 := .int 1)
    have h0 : ∀ a j, (a = 108 ∨ a = 143 ∨ a = 102) → σ6.1 a j = σ.1 a j := fun a j q => (rows6 a j (by rcases q with rfl | rfl | rfl <;> rfl)).trans ((k5 a j (by omega)).trans (k4 a j (by rcases hr with rfl | rfl <;> rcases q with rfl | rfl | rfl <;> rfl)))
    refine ⟨k, σ6, τ', by omega, by omega, eN, by rw [rM]; exact re, ⟨fun j => h0 _ j (Or.inl rfl), fun j => h0 _ j (Or.inr (Or.inl rfl)), fun j => h0 _ j (Or.inr (Or.inr rfl))⟩, fun e => ⟨19 - r, ?_⟩⟩
    subst e
    have kt : ∀ a j, SMq a j = false → SMk a j = false → ¬ (a = 102 ∧ (j = 7 ∨ j = 5)) → τ'.1 a j = υ.1 a j := fun a j q1 q2 q3 => (K7.2 a j q1).trans ((t3a a j q3).trans ((B1.tr b2).2 a j q2))
    have g7 : τ'.2.2 = σ3.2.2 := K7.1.trans (t32.trans ((B1.tr b2).1.trans g6))
    have k64 : ∀ a j, SHo a 0 = false → a ≠ p + 2 → υ.1 a j = σ4.1 a j := fun a j q1 q2 => (rows6 a j q1).trans (k5 a j q2)
    have kr : ∀ a j, (a = 19 - r ∨ a = 19 - r + 1 ∨ a = 19 - r + 2 ∨ a = 19 - r + 3 ∨ a = 19 - r + 4) → τ'.1 a j = σ2.1 a j := fun a j q => by
      rw [kt a j (by rcases hr with rfl | rfl <;> rcases q with rfl | rfl | rfl | rfl | rfl <;> rfl) (by rcases hr with rfl | rfl <;> rcases q with rfl | rfl | rfl | rfl | rfl <;> rfl) (by omega), rows6 a j (by rcases hr with rfl | rfl <;> rcases q with rfl | rfl | rfl | rfl | rfl <;> rfl), kq5 a j q]
    refine rule_inv h k2 k6 (by rw [g7]; exact s41) (by rw [g7]; exact s42) (fun b j q => by rw [g7]; exact s4o b j q) (fun a j e => ?_) ?_ ((K7.2 102 7 rfl).trans t37) ((K7.2 102 5 rfl).trans t35) ((kr _ _ (by simp)).trans ek) oW oC (fun x x0 x1 => ?_) h106 (fun x x0 x1 => ?_) (fun x x6 => ?_) hz ?_
    · simp only [SRu, Bool.or_eq_false_iff] at e
      obtain ⟨e1, ⟨⟨⟨⟨⟨⟨⟨e2, e3⟩, e4⟩, e5⟩, e6⟩, e7⟩, e8⟩, e9⟩, e10⟩ := e
      rw [kt a j e4 e3 (by intro q; obtain ⟨rfl, rfl | rfl⟩ := q <;> cases e5), k64 a j e10 (by intro q; rw [q, beq_self_eq_true] at e9; cases e9)]
      exact k4 a j (by rw [e1, e2, e6, e7, e8]; rfl)
    · rw [kt 5 1 rfl rfl (by omega), k64 5 1 rfl (by omega), K4.2 5 1 rfl, s3]
      exact e51
    · rw [kr _ _ (by simp), kr _ _ (by simp), kr _ _ (by simp), kr _ _ (by simp)]
      exact rowk x x0 x1
    · refine ⟨?_, h143' x x0 x1⟩
      rw [kt (p + 2) _ (by rcases hp with rfl | rfl <;> rfl) (by rcases hp with rfl | rfl <;> rfl) (by omega), rows6 (p + 2) _ (by rcases hp with rfl | rfl <;> rfl)]
      exact z5 x x0 x1
    · have e : ∀ a, (a = 88 ∨ a = 89 ∨ a = 90) → τ'.1 a x = σ4.1 a x := fun a q => by
        rw [kt a x (by rcases q with rfl | rfl | rfl <;> rfl) (by rcases q with rfl | rfl | rfl <;> rfl) (by omega), k64 a x (by rcases q with rfl | rfl | rfl <;> rfl) (by omega)]
      rw [e 88 (by simp), e 89 (by simp), e 90 (by simp)]
      exact cz x x6
    · refine hH6.fr (S := fun a k => SMq a k || SMk a k || (a == 102 && (k == 7 || k == 5))) ⟨g7.trans g6.symm, fun a j e => ?_⟩ ?_
      · simp only [Bool.or_eq_false_iff] at e
        exact kt a j e.1.1 e.1.2 (by intro q; obtain ⟨rfl, rfl | rfl⟩ := q <;> cases e.2)
      · intro a j q
        simp only [DHou, Bool.or_eq_true, Bool.and_eq_true, beq_iff_eq] at q
        rcases hp with rfl | rfl <;> rcases hr with rfl | rfl <;> rcases q with (((((((((((((⟨rfl, rfl⟩ | rfl) | rfl) | rfl) | ⟨rfl, rfl⟩) | rfl) | rfl) | rfl) | rfl) | rfl) | rfl) | rfl) | rfl) | rfl) <;> rfl
theorem c_rule {σ : Sg} {r p l : Nat} (h : Inv r p l σ) (n : Int32) : Same (f_N_rule 100 n) (f_M_rule 100 n) σ := by
  obtain ⟨n, rfl, hn⟩ := zI_ex n
  obtain ⟨t0, t1, t2, t3⟩ := h.2.1
  by_cases qn : 1 ≤ n ∧ n ≤ 20 ∧ n ≤ rd σ 5 1
  · obtain ⟨v, σ', -, -, -, a1, -, ⟨k1, k2, k3⟩, -⟩ := ruleRun h qn (υ := σ) (fun _ => rfl) (fun _ => rfl) fun _ => rfl
    obtain ⟨v2, σ2, τ2, -, -, b1, b2, -, inv⟩ := ruleRun h qn (υ := σ') k1 k2 k3
    obtain ⟨e1, e2⟩ := rI_two (a1.symm.trans b1)
    obtain ⟨r', hi⟩ := inv e2
    exact ⟨zI v, σ', τ2, r', p, l, a1, by rw [e1]; exact b2, hi⟩
  · refine ⟨-1, σ, σ, r, p, l, ?_, ?_, h⟩
    · rw [f_N_rule_eq, show (20 : Int32) = zI 20 from zI_lit 20, isTapeHas (d := 98) (by decide) hn, cI_rI, decide_eq_false qn, bz_ff, if_pos (by decide)]
    · rw [f_M_rule_eq, show (1 : Int32) = zI 1 from zI_lit 1, show (20 : Int32) = zI 20 from zI_lit 20, in_sp hn (by decide) (by decide), cI_rI]
      by_cases z : 1 ≤ n ∧ n ≤ 20
      · rw [decide_eq_true z, bz_tt, if_neg (by decide), if_pos (by rw [(rd_k σ 102 7).trans (congrArg zI t2), zI_le (by omega) (by omega)]; omega)]
      · rw [decide_eq_false z, bz_ff, if_pos (by decide)]
