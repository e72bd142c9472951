/-! kin -/
def SKn (a k : Nat) : Bool := STh a k || SOf a k
noncomputable def kinN (r : Nat) (w s : Int) (τ : Sg) : Rs := if zI w = 100 then cI (f_Word_sortAtEnd 99 49 τ) fun v σ => rI v σ
  else if zI w = 101 then cI (f_Word_unchanged 99 49 r (zI s) τ) fun v σ => rI v σ
  else if zI w = 102 then cI (f_Word_rounds 99 49 r (zI s) τ) fun v σ => rI v σ
  else if zI w = 103 then cI (f_Word_lawfulFrom 99 49 r (zI s) τ) fun v σ => rI v σ
  else if zI w = 104 then rI (τ.1 49 0) τ
  else cI (f_Word_lead 99 49 r (zI w) (zI s) τ) fun v σ => rI v σ
noncomputable def kinM (w s : Int) (τ : Sg) : Rs := if zI w = 100 then cI (f_M_sortBehind 99 (zI s) τ) fun v σ => rI v σ
  else if zI w = 101 then cI (f_M_fixedBy 99 (zI s) τ) fun v σ => rI v σ
  else if zI w = 102 then cI (f_M_oftenTill 99 (zI s) τ) fun v σ => rI v σ
  else if zI w = 103 then cI (f_M_lawful 99 (zI s) τ) fun v σ => rI v σ
  else if zI w = 104 then rI (τ.1 102 38) τ
  else cI (f_M_leadsTo 99 (zI w) (zI s) τ) fun v σ => rI v σ
theorem gb_same {u v : Int32} {P : Int → Bool} (h : ∀ y, 0 ≤ y → y < 32 → gb u y = P y) (h' : ∀ y, 0 ≤ y → y < 32 → gb v y = P y) : u = v := gb_ext fun k k0 k1 => (h k k0 k1).trans (h' k k0 k1).symm
theorem kinTail {σ2 τ : Sg} {r : Nat} {n : Int} {W : WS} {A B C M : Int → Int} (c : CWo 49 W σ2) (m : MWo W τ) (ok : WOk W) (w1 : 1 ≤ W.size) (hr : RuleAt σ2 r n) (hm : MR4 τ n A B C M) (n0 : 0 ≤ n) (e0 : τ.1 102 5 = zI n) (eA : rd σ2 (r + 1) = A) (eB : rd σ2 (r + 2) = B) (eC : rd σ2 (r + 3) = C) (eM : rd σ2 (r + 4) = M) {s w : Int} (s01 : s = 0 ∨ s = 1) (hw : (0 ≤ w ∧ w < n) ∨ 100 ≤ w ∧ w ≤ 104) : ∃ v τ', kinN r w s σ2 = rI v σ2 ∧ kinM w s τ = rI v τ' ∧ Fr SOf τ τ' := by
  have n6 := hr.2.2.1
  have hN : NmOk n A B C M := by rw [← eA, ← eB, ← eC, ← eM]; exact hr.2.2
  have hG := fun k s x h0 h1 => goF_lt hN (k := k) (s := s) (x := x) h0 h1
  have hf : fOf σ2 r W s = ldF (goF A B C M) W.st W.size.toNat 0 s := by unfold fOf gOf; rw [eA, eB, eC, eM]
  have on := fOf_on hr W s
  have q : ∀ v : Int, v = 100 ∨ v = 101 ∨ v = 102 ∨ v = 103 ∨ v = 104 → (zI w = zI v) = (w = v) := fun v hv => zI_eq (by omega) (by omega)
  unfold kinN kinM
  simp only [show (100 : Int32) = zI 100 from zI_lit 100, show (101 : Int32) = zI 101 from zI_lit 101, show (102 : Int32) = zI 102 from zI_lit 102, show (103 : Int32) = zI 103 from zI_lit 103, show (104 : Int32) = zI 104 from zI_lit 104, q 100 (by decide), q 101 (by decide), q 102 (by decide), q 103 (by decide), q 104 (by decide)]
  by_cases z : w = 100
  · rw [if_pos z, if_pos z, sortEnd_sp (Or.inl rfl) c ok w1, sortEndM_sp m ok w1]
    exact ⟨_, _, rfl, rfl, Fr.rf _ _⟩
  rw [if_neg z, if_neg z]
  by_cases z : w = 101
  · rw [if_pos z, if_pos z, unch_sp (Or.inl rfl) c ok hr n0 s01, fixed_sp m ok hm ⟨n0, n6⟩ e0 hG s01 hf]
    exact ⟨_, _, rfl, rfl, Fr.rf _ _⟩
  rw [if_neg z, if_neg z]
  by_cases z : w = 102
  · obtain ⟨N, a1, a2⟩ := rounds_sp (a := 49) (Or.inl rfl) (d := 94) c ok hr n0 s01
    obtain ⟨τ', F, b1⟩ := often_sp (d := 95) m ok hm ⟨n0, n6⟩ e0 s01 hf hG on a2
    rw [if_pos z, if_pos z, a1, b1]
    exact ⟨_, _, rfl, rfl, F⟩
  rw [if_neg z, if_neg z]
  by_cases z : w = 103
  · obtain ⟨u, a1, a2⟩ := lawfulFrom_sp (a := 49) (Or.inl rfl) (d := 95) c ok w1 hr n0 s01
    obtain ⟨v, b1, b2⟩ := lawfulM_sp (d := 95) m ok w1 hm ⟨n0, n6⟩ e0 hN s01 hf
    rw [eA, eB] at a2
    rw [if_pos z, if_pos z, a1, b1, gb_same a2 b2]
    exact ⟨_, _, rfl, rfl, Fr.rf _ _⟩
  rw [if_neg z, if_neg z]
  by_cases z : w = 104
  · rw [if_pos z, if_pos z, c.1, m.1]
    exact ⟨_, _, rfl, rfl, Fr.rf _ _⟩
  rw [if_neg z, if_neg z, lead_sp (Or.inl rfl) c ok hr (by omega) (by omega) s01, leadM_sp m ok hm hG (by omega) (by omega) s01]
  refine ⟨_, _, rfl, ?_, Fr.rf _ _⟩
  rw [cI_rI, ← hf]; rfl
theorem c_kin {σ : Sg} {r p l : Nat} (h : Inv r p l σ) (n s w : Int32) : Same (f_N_kin 100 n s w) (f_M_kin 100 n s w) σ := by
  obtain ⟨n, rfl, hn⟩ := zI_ex n
  obtain ⟨s, rfl, hs⟩ := zI_ex s
  obtain ⟨w, rfl, hw⟩ := zI_ex w
  obtain ⟨n1, n2, n3, n4⟩ := h.n
  have hb := h.bits
  obtain ⟨t0, t1, t2, t3⟩ := h.2.1
  have er0 : σ.1 r 0 = zI (rd σ r 0) := rd_k σ r 0
  have em0 : σ.1 102 5 = zI (rd σ r 0) := by rw [← n4]; exact rd_k σ 102 5
  have e7 : σ.1 102 7 = zI (rd σ 5 1) := by rw [← t2]; exact rd_k σ 102 7
  have iN := isName_sp (σ := σ) n1 n2 rfl n3 (d := 98) hw
  have iM := fun (τ : Sg) (e : rd τ 102 5 = rd σ r 0) => isNameM_sp (σ := τ) (n := rd σ r 0) e n3 (d := 97) hw
  have sN := isSort_sp (σ := σ) (d := 98) hs
  have tN := isTapeHas (σ := σ) (d := 98) (a := n) (m := 40) (by decide) hn
  have inM := fun (τ : Sg) => in_sp (σ := τ) (d := 98) (a := n) (b := 1) (c := 40) hn (by decide) (by decide)
  have isM := fun (τ : Sg) => in_sp (σ := τ) (d := 98) (a := s) (b := 0) (c := 1) hs (by decide) (by decide)
  have iwM := fun (τ : Sg) => in_sp (σ := τ) (d := 98) (a := w) (b := 100) (c := 104) hw (by decide) (by decide)
  have k0 : (zI (rd σ r 0) = zI 0) = (rd σ r 0 = 0) := zI_eq (by omega) (by decide)
  have k1 : (zI w < zI 100) = (w < 100) := zI_le hw (by decide)
  have k2 : (zI 104 < zI w) = (104 < w) := zI_le (by decide) hw
  have k3 : (zI (rd σ 5 1) < zI n) = (rd σ 5 1 < n) := zI_le (by omega) hn
  have k4 : (zI 1 = zI 0) = False := eq_false (by decide)
  by_cases q : ¬ (((0 ≤ w ∧ w < rd σ r 0) ∨ 100 ≤ w ∧ w ≤ 104) ∧ rd σ r 0 ≠ 0 ∧ (0 ≤ s ∧ s ≤ 1) ∧ 1 ≤ n ∧ n ≤ 40 ∧ n ≤ rd σ 5 1)
  · refine ⟨-1, σ, σ, r, p, l, ?_, ?_, h⟩
    · rw [f_N_kin_eq]
      simp only [iN, cI_rI, bz_0, show (100 : Int32) = zI 100 from zI_lit 100, show (104 : Int32) = zI 104 from zI_lit 104, show (40 : Int32) = zI 40 from zI_lit 40, zI_0, show (1 : Int32) = zI 1 from zI_lit 1, n1, gfI_of n2, er0, sN, tN, k0, k1, k2, k4, decide_eq_false_iff_not, ite_not, if_true, if_false]
      have tail : ∀ X, rd σ r 0 = 0 ∨ ¬ (0 ≤ s ∧ s ≤ 1) ∨ ¬ (1 ≤ n ∧ n ≤ 40 ∧ n ≤ rd σ 5 1) → (if rd σ r 0 = 0 then rI (-zI 1) σ else if 0 ≤ s ∧ s ≤ 1 then (if 1 ≤ n ∧ n ≤ 40 ∧ n ≤ rd σ 5 1 then X else rI (-zI 1) σ) else rI (-zI 1) σ) = rI (-zI 1) σ := fun X hX => by
        by_cases b1 : rd σ r 0 = 0
        · rw [if_pos b1]
        · rw [if_neg b1]
          by_cases b2 : 0 ≤ s ∧ s ≤ 1
          · rw [if_pos b2, if_neg (by omega)]
          · rw [if_neg b2]
      by_cases a1 : 0 ≤ w ∧ w < rd σ r 0
      · rw [if_pos a1]
        exact tail _ (by omega)
      · rw [if_neg a1]
        by_cases a2 : w < 100
        · rw [if_pos a2, ite_self]
        · rw [if_neg a2]
          by_cases a3 : 104 < w
          · rw [if_pos a3, ite_self]
          · rw [if_neg a3]
            exact tail _ (by omega)
    · rw [f_M_kin_eq]
      simp only [show (100 : Int32) = zI 100 from zI_lit 100, show (104 : Int32) = zI 104 from zI_lit 104, show (40 : Int32) = zI 40 from zI_lit 40, zI_0, show (1 : Int32) = zI 1 from zI_lit 1, inM, isM, iM σ n4, iwM, cI_rI, bz_0, em0, e7, k0, k3, decide_eq_false_iff_not, ite_not]
      by_cases a1 : 1 ≤ n ∧ n ≤ 40
      · rw [if_pos a1]
        by_cases a2 : 0 ≤ s ∧ s ≤ 1
        · rw [if_pos a2]
          by_cases a3 : 0 ≤ w ∧ w < rd σ r 0
          · rw [if_pos a3, if_neg (by omega), if_pos (by omega)]
          · rw [if_neg a3]
            by_cases a4 : 100 ≤ w ∧ w ≤ 104
            · rw [if_pos a4]
              by_cases a5 : rd σ r 0 = 0
              · rw [if_pos a5]
              · rw [if_neg a5, if_pos (by omega)]
            · rw [if_neg a4]
        · rw [if_neg a2]
      · rw [if_neg a1]
  obtain ⟨qw, q0, qs, qn⟩ := Classical.not_not.mp q
  obtain ⟨σ1, σ2, et, e1, eN, F02, x1, bd, rest⟩ := wordBoth h (n := n) (s := s) qn (by omega) 98 95 95
  obtain ⟨σ3, F3, eM, hW, -⟩ := rest σ2 (fun k => F02.2 _ _ rfl)
  have em02 : rd σ2 102 5 = rd σ r 0 := (fr_rd F02 rfl).trans n4
  have em02' : σ2.1 102 5 = zI (rd σ r 0) := (F02.2 _ _ rfl).trans em0
  have e72 : σ2.1 102 7 = zI (rd σ 5 1) := (F02.2 _ _ rfl).trans e7
  have n12 : σ2.2.2 4 1 = r := by rw [F02.1]; exact n1
  have wz : (0 ≤ w ∧ w < rd σ r 0) ∨ ¬ (0 ≤ w ∧ w < rd σ r 0) ∧ ¬ w < 100 ∧ ¬ 104 < w ∧ 100 ≤ w ∧ w ≤ 104 := by clear hW rest; omega
  have startN : f_N_kin 100 (zI n) (zI s) (zI w) σ = if wRes (rd σ 6) n s = 0 then kinN r w s σ2 else rI (zI (wRes (rd σ 6) n s)) σ2 := by
    have kz : (zI (wRes (rd σ 6) n s) = zI 0) = (wRes (rd σ 6) n s = 0) := zI_eq (by omega) (by decide)
    rw [f_N_kin_eq, iN, cI_rI]
    rcases wz with z | ⟨z, z1, z2, z3⟩
    · rw [decide_eq_true z, bz_tt, if_neg (by decide), n1, gfI_of n2, er0, if_neg (by rw [zI_0, k0]; exact q0), if_neg (by decide), sN, cI_rI, decide_eq_true qs, bz_tt, if_neg (by decide), show (40 : Int32) = zI 40 from zI_lit 40, tN, cI_rI, decide_eq_true qn, bz_tt, if_neg (by decide), zI_0, et, cV_rV, eN, cI_rI, n12]
      simp only [kz]
      rfl
    · rw [decide_eq_false z, bz_ff, if_pos (by decide), if_neg (by rw [show (100 : Int32) = zI 100 from zI_lit 100, k1]; exact z1), if_neg (by rw [show (104 : Int32) = zI 104 from zI_lit 104, k2]; exact z2), n1, gfI_of n2, er0, if_neg (by rw [zI_0, k0]; exact q0), if_neg (by decide), sN, cI_rI, decide_eq_true qs, bz_tt, if_neg (by decide), show (40 : Int32) = zI 40 from zI_lit 40, tN, cI_rI, decide_eq_true qn, bz_tt, if_neg (by decide), zI_0, et, cV_rV, eN, cI_rI, n12]
      simp only [kz]
      rfl
  have startM : f_M_kin 100 (zI n) (zI s) (zI w) σ2 = if wRes (rd σ 6) n s < 0 then rI (zI (wRes (rd σ 6) n s)) (sI σ3 102 7 (zI 0)) else kinM w s (sI σ3 102 7 (zI 0)) := by
    have kz : (zI (wRes (rd σ 6) n s) < zI 0) = (wRes (rd σ 6) n s < 0) := zI_le (by omega) (by decide)
    rw [f_M_kin_eq, show (40 : Int32) = zI 40 from zI_lit 40, zI_0, show (1 : Int32) = zI 1 from zI_lit 1, inM, cI_rI, decide_eq_true (show 1 ≤ n ∧ n ≤ 40 by omega), bz_tt, if_neg (by decide), isM, cI_rI, decide_eq_true qs, bz_tt, if_neg (by decide), iM σ2 em02, cI_rI]
    rcases wz with z | ⟨z, z1, z2, z3⟩
    · rw [decide_eq_true z, bz_tt, if_neg (by decide), em02', if_neg (by rw [k0]; exact q0), e72, if_neg (by rw [k3]; omega), eM, cI_rI]
      simp only [kz]
      rfl
    · rw [decide_eq_false z, bz_ff, if_pos (by decide), show (100 : Int32) = zI 100 from zI_lit 100, show (104 : Int32) = zI 104 from zI_lit 104, iwM, cI_rI, decide_eq_true z3, bz_tt, if_neg (by decide), em02', if_neg (by rw [k0]; exact q0), e72, if_neg (by rw [k3]; omega), eM, cI_rI]
      simp only [kz]
      rfl
  have F03 : Fr SKn σ (sI σ3 102 7 (zI 0)) := (((SNw.th F02).mono fun a k e => by
    simp only [SKn, Bool.or_eq_false_iff] at e; exact e.1).tr (F3.mono fun a k e => by
    simp only [SKn, STh, Bool.or_eq_false_iff] at e
    exact e.1.1.1.2)).sI _ rfl
  have hI : ∀ τ, Fr SKn σ τ → Fr SOf (sI σ3 102 7 (zI 0)) τ → Inv r p l τ := fun τ F G => by
    refine h.took F ?_ ?_ (by rcases hb.2.2 with rfl | rfl <;> rfl) (by rcases hb.2.2 with rfl | rfl <;> repeat (first | exact trivial | refine ⟨fun _ => rfl, ?_⟩ | refine ⟨rfl, ?_⟩)) ?_ ?_
    · repeat (first | exact trivial | refine ⟨fun _ => rfl, ?_⟩ | refine ⟨rfl, ?_⟩)
    · repeat (first | exact trivial | refine ⟨fun _ => rfl, ?_⟩ | refine ⟨rfl, ?_⟩)
    · rw [fr_rd G rfl, rd_other (by decide), fr_rd F3 rfl]; exact x1
    · rw [fr_rd G rfl]; exact rd_same rfl (by decide) (by decide)
  by_cases z : wRes (rd σ 6) n s = 0
  · obtain ⟨W, w1, w2, w3, w4, -⟩ := hW z
    have hru : RuleAt σ2 r (rd σ r 0) := by
      have := (h.2.2.1.fr F02 (by
        intro a k e
        rcases hb.1 with rfl | rfl <;> simp [DRule] at e <;> rcases e with ((((((rfl | rfl) | rfl) | rfl) | rfl) | ⟨rfl, rfl⟩) | rfl) | rfl <;> rfl)).1
      rw [fr_rd F02 (by rcases hb.1 with rfl | rfl <;> rfl)] at this
      exact this
    have frw : ∀ a, a = r + 1 ∨ a = r + 2 ∨ a = r + 3 ∨ a = r + 4 → rd σ2 a = rd σ a := fun a ha => fr_row F02 fun k => by
      rcases hb.1 with rfl | rfl <;> rcases ha with rfl | rfl | rfl | rfl <;> rfl
    have hm4 := h.2.2.1.mr4.fr F03 rfl (fun _ => rfl) (fun _ => rfl)
    have mo : MWo W (sI σ3 102 7 (zI 0)) := w4
    obtain ⟨v, τ', y1, y2, y3⟩ := kinTail (s := s) (w := w) w1 mo w2 w3 hru hm4 n3.1 ((F3.2 _ _ rfl).trans em02') (frw _ (by simp)) (frw _ (by simp)) (frw _ (by simp)) (frw _ (by simp)) (by omega) qw
    refine ⟨v, σ2, τ', r, p, l, ?_, ?_, hI τ' (F03.tr (y3.mono fun a k e => by
      simp only [SKn, Bool.or_eq_false_iff] at e; exact e.2)) y3⟩
    · rw [startN, if_pos z, y1]
    · rw [startM, if_neg (by omega), y2]
  · refine ⟨zI (wRes (rd σ 6) n s), σ2, _, r, p, l, by rw [startN, if_neg z], by rw [startM, if_pos (by omega)], hI _ F03 (Fr.rf _ _)⟩
