/-! term -/
theorem find_sp {σ : Sg} {r d : Nat} {n : Int} (hr : RuleAt σ r n) (n0 : 0 ≤ n) {W H C M : Int → Int} (eW : rd σ (r + 1) = W) (eH : rd σ (r + 2) = H) (eC : rd σ (r + 3) = C) (eM : rd σ (r + 4) = M) {s goal : Int} (s0 : 0 ≤ s) (s1 : s < 2 * n) (g0 : 0 ≤ goal) (g1 : goal < 2 * n) : ∃ q pr kd m τ, f_Row_findOnNames (d + 4) r (zI s) (zI goal) σ = (if τ.1 63 goal.toNat = zI (-1) then rZ (zI 0) τ else cV (f_Row_writeBack (d + 3) (zI s) (zI goal) τ) fun σ1 => rZ (zI 1) σ1) ∧ BF (2 * n) alC (nxt W H C M) s q pr kd m ∧ CQ q pr kd m τ ∧ Fr SFn σ τ := by
  have n6 := hr.2.2.1
  have hS : ∀ k, SFn r k = false ∧ SFn (r + 1) k = false ∧ SFn (r + 2) k = false ∧ SFn (r + 3) k = false ∧ SFn (r + 4) k = false := by
    intro k; rcases hr.1 with rfl | rfl <;> exact ⟨rfl, rfl, rfl, rfl, rfl⟩
  obtain ⟨σ1, f1, f2, f3, -⟩ := fill_sp (a := 63) (n := 12) rfl (by decide) (v := zI (-1)) (σ := σ) (d := d + 2)
  have F1 : Fr SFn σ (sI (sI (sI σ1 63 s.toNat (zI s)) 65 0 (zI s)) 61 5 (zI 1)) := (((f3.mono fun a k e => by simp only [SFn, Bool.or_eq_false_iff] at e; exact e.1.1.1).sI _ rfl).sI _ rfl).sI _ rfl
  have cq : CQ (fun _ => s) (fun _ => 0) (fun _ => 0) 1 (sI (sI (sI σ1 63 s.toNat (zI s)) 65 0 (zI s)) 61 5 (zI 1)) := by
    refine ⟨sI_same _ _ _ _, fun j jm => ?_, fun v v0 v1 => ?_⟩
    · have : j = 0 := by omega
      subst this
      rw [sI_row _ _ _ _ _ (by decide), sI_same]
    · rw [sI_row _ _ _ _ _ (by decide), sI_row _ _ _ _ _ (by decide)]
      by_cases z : v = s
      · subst z
        exact Or.inr ⟨0, by decide, rfl, sI_same _ _ _ _, fun h => by omega⟩
      · rw [sI_slot _ _ _ _ (by omega)]
        exact Or.inl ⟨f2 _ (by omega), fun j _ => Ne.symm z⟩
  obtain ⟨b1, b2, b3, b4, b5⟩ := hr.fr5 F1 hS
  obtain ⟨q, pr, kd, m, τ, e1, e2, e3, e4⟩ := find30_sp b1 n0 (b2.trans eW) (b3.trans eH) (b4.trans eC) (b5.trans eM) (s := s) g0 g1 (d := d) 12 0 _ _ _ 1 _ .null (by decide) (by decide) (BI.init s0 s1) cq (Fr.rf _ _)
  refine ⟨q, pr, kd, m, τ, ?_, e2, e3, F1.tr e4⟩
  rw [f_Row_findOnNames_eq, show (-1 : Int32) = zI (-1) from rfl, f1, cV_rV, bnd_zI s0 (by omega) (by omega), zI_0, bnd_zI (by decide) (by decide) (by decide), ix_zI s0 (by omega)]
  exact e1
theorem node_F {n s : Int} {W H C M F : Int → Int} {q : Nat → Int} {pr : Nat → Nat} {kd : Nat → Int} {m g D : Nat} (n6 : n ≤ 6) (h : BF (2 * n) alC (nxt W H C M) s q pr kd m) (gm : g < m) (hD : Dp pr g D) (hF : FIs (q g) alC (nxt W H C M) (2 * n) F 12) {t : Nat} (ht : t ≤ D) (D12 : D ≤ 12) : F (q (itN pr t g)) = t := by
  have b := h.it_lt gm t
  have qb := h.2.1 (itN pr t g) (by omega)
  have up := h.up gm hD t ht
  have a1 := hF.2.2 t _ (by omega) qb.1 qb.2 up
  have fb := hF.1 _ qb.1 (by omega)
  have a2 := hF.2.1 _ qb.1 qb.2 (by omega)
  have := h.short gm hD ht a2
  omega
theorem node_kind {τ : Sg} {d : Nat} {n s : Int} {W H C M F : Int → Int} {q : Nat → Int} {pr : Nat → Nat} {kd : Nat → Int} {m g D : Nat} (hm : MR4 τ n W H C M) (hN : NmOk n W H C M) (h : BF (2 * n) alC (nxt W H C M) s q pr kd m) (gm : g < m) (hD : Dp pr g D) (hF : FIs (q g) alC (nxt W H C M) (2 * n) F 12) (hτ : ∀ v, 0 ≤ v → v < 12 → τ.1 132 v.toNat = zI (F v)) {t : Nat} (ht : t < D) (D12 : D ≤ 12) : f_M_kindFrom (d + 4) (zI (q (itN pr (t + 1) g))) τ = rI (zI (kd (itN pr t g))) τ ∧ f_M_stateBy (d + 4) (zI (q (itN pr (t + 1) g))) (zI (kd (itN pr t g))) τ = rI (zI (q (itN pr t g))) τ ∧ 0 ≤ kd (itN pr t g) ∧ kd (itN pr t g) < 8 := by
  have n6 := hN.1
  have b := h.it_lt gm t
  have b1 := h.it_lt gm (t + 1)
  have p := Nat.pos_of_ne_zero (hD.2 t ht)
  obtain ⟨a1, a2, a3, a4, a5, -⟩ := h.2.2.2.1 (itN pr t g) p (by omega)
  have a2 : q (itN pr t g) = nxt W H C M (kd (itN pr t g)) (q (itN pr (t + 1) g)) := a2
  have a5 : alC (kd (itN pr t g)) (q (itN pr (t + 1) g)) = true := a5
  have qb := h.2.1 (itN pr (t + 1) g) (by omega)
  have f1 := node_F n6 h gm hD hF (t := t + 1) (by omega) D12
  have f0 := node_F n6 h gm hD hF (t := t) (by omega) D12
  refine ⟨?_, ?_, a3, a4⟩
  · refine kindFrom_sp hm hN (fun v v0 v1 => ⟨hτ v v0 v1, hF.1 v v0 v1⟩) qb.1 qb.2 a3 a4 a5 (by rw [← a2, f0, f1]; omega) fun k k0 k1 ⟨z1, z2⟩ => ?_
    have wb := nxt_bd hN (k := k) k0 (by omega) qb.1 qb.2
    rw [f1] at z2
    have r := hF.2.1 _ wb.1 wb.2 (by omega)
    rw [z2, show (((t + 1 : Nat) : Int) - 1).toNat = t by omega] at r
    exact h.least gm hD ht k0 k1 z1 r
  · have st := stateBy_sp hm (d := d + 1) a3 a4 qb.1 qb.2
    rw [if_pos (show canB _ _ = true from a5), ← a2] at st
    exact st
theorem term113_sp {τ : Sg} {d : Nat} {n s : Int} {W H C M F : Int → Int} {q : Nat → Int} {pr : Nat → Nat} {kd : Nat → Int} {m g D : Nat} (hm : MR4 τ n W H C M) (hN : NmOk n W H C M) (h : BF (2 * n) alC (nxt W H C M) s q pr kd m) (gm : g < m) (hD : Dp pr g D) (hF : FIs (q g) alC (nxt W H C M) (2 * n) F 12) (hτ : ∀ v, 0 ≤ v → v < 12 → τ.1 132 v.toNat = zI (F v)) (D12 : D ≤ 12) {w : Nat} (wD : w < D) : ∀ (b i : Nat) (x1 x2 x3 x4 : Value), i + b = w → f_M_term_113 (d + 4) x1 x2 x3 x4 (zI (w : Int)) (zI (q (itN pr (D - i) g))) (zI (i : Int)) τ = rI (FC 1 (ix (zI (kd (itN pr (D - 1 - w) g))))) τ := by
  intro b
  induction b with
  | zero =>
    intro i x1 x2 x3 x4 hi
    have : i = w := by omega
    subst this
    obtain ⟨e1, -, k0, k8⟩ := node_kind (d := d) hm hN h gm hD hF hτ (t := D - 1 - i) (by omega) D12
    rw [show D - 1 - i + 1 = D - i by omega] at e1
    rw [f_M_term_113_eq, if_neg Int32.lt_irrefl, e1, cI_rI, letterOf_sp k0 k8, cI_rI]
  | succ b ih =>
    intro i x1 x2 x3 x4 hi
    obtain ⟨e1, e2, k0, k8⟩ := node_kind (d := d) hm hN h gm hD hF hτ (t := D - 1 - i) (by omega) D12
    rw [show D - 1 - i + 1 = D - i by omega] at e1 e2
    rw [f_M_term_113_eq, if_pos (by rw [zI_le (by omega) (by omega)]; omega), e1, cI_rI, e2, cI_rI, show (1 : Int32) = zI 1 from zI_lit 1, zI_add, show D - 1 - i = D - (i + 1) by omega]
    exact ih (i + 1) x1 x2 x3 x4 (by omega)
def STm (a k : Nat) : Bool := SFn a k || SWb a k || S132 a k
theorem c_term {σ : Sg} {r p l : Nat} (h : Inv r p l σ) (a b c e w : Int32) : Same (f_N_term 100 a b c e w) (f_M_term 100 a b c e w) σ := by
  obtain ⟨a, rfl, ha⟩ := zI_ex a
  obtain ⟨b, rfl, hb⟩ := zI_ex b
  obtain ⟨c, rfl, hc⟩ := zI_ex c
  obtain ⟨e, rfl, he⟩ := zI_ex e
  obtain ⟨w, rfl, hw⟩ := zI_ex w
  obtain ⟨n1, n2, n3, n4⟩ := h.n
  have hbt := h.bits
  have iaN := isName_sp (σ := σ) n1 n2 rfl n3 (d := 98) ha
  have icN := isName_sp (σ := σ) n1 n2 rfl n3 (d := 98) hc
  have ibN := isSort_sp (σ := σ) (d := 98) hb
  have ieN := isSort_sp (σ := σ) (d := 98) he
  have iwN := isStep_sp (σ := σ) (d := 98) (a := w) (b := 12) hw (by decide)
  have iaM := fun (τ : Sg) (e : rd τ 102 5 = rd σ r 0) => isNameM_sp (σ := τ) (n := rd σ r 0) e n3 (d := 97) ha
  have icM := fun (τ : Sg) (e : rd τ 102 5 = rd σ r 0) => isNameM_sp (σ := τ) (n := rd σ r 0) e n3 (d := 97) hc
  have ibM := fun (τ : Sg) => in_sp (σ := τ) (d := 98) (a := b) (b := 0) (c := 1) hb (by decide) (by decide)
  have ieM := fun (τ : Sg) => in_sp (σ := τ) (d := 98) (a := e) (b := 0) (c := 1) he (by decide) (by decide)
  have iwM := fun (τ : Sg) => isStepOr_sp (σ := τ) (d := 97) (a := w) (b := 11) hw (by decide)
  by_cases q : ¬ ((0 ≤ a ∧ a < rd σ r 0) ∧ (0 ≤ b ∧ b ≤ 1) ∧ (0 ≤ c ∧ c < rd σ r 0) ∧ (0 ≤ e ∧ e ≤ 1) ∧ (w = 100 ∨ 0 ≤ w ∧ w < 12))
  · refine ⟨-1, σ, σ, r, p, l, ?_, ?_, h⟩
    · rw [f_N_term_eq, iaN, cI_rI]
      by_cases a1 : 0 ≤ a ∧ a < rd σ r 0
      · rw [decide_eq_true a1, bz_tt, if_neg (by decide), ibN, cI_rI]
        by_cases a2 : 0 ≤ b ∧ b ≤ 1
        · rw [decide_eq_true a2, bz_tt, if_neg (by decide), icN, cI_rI]
          by_cases a3 : 0 ≤ c ∧ c < rd σ r 0
          · rw [decide_eq_true a3, bz_tt, if_neg (by decide), ieN, cI_rI]
            by_cases a4 : 0 ≤ e ∧ e ≤ 1
            · rw [decide_eq_true a4, bz_tt, if_neg (by decide), if_neg (by decide), show (12 : Int32) = zI 12 from zI_lit 12, iwN, cI_rI, decide_eq_false (show ¬ (w = 100 ∨ 0 ≤ w ∧ w < 12) by omega), bz_ff, if_pos (by decide)]
            · rw [decide_eq_false a4, bz_ff, if_pos (by decide), if_pos rfl]
          · rw [decide_eq_false a3, bz_ff, if_pos (by decide), if_pos rfl]
        · rw [decide_eq_false a2, bz_ff, if_pos (by decide), if_pos rfl]
      · rw [decide_eq_false a1, bz_ff, if_pos (by decide), if_pos rfl]
    · rw [f_M_term_eq, iaM σ n4, cI_rI]
      by_cases a1 : 0 ≤ a ∧ a < rd σ r 0
      · rw [decide_eq_true a1, bz_tt, if_neg (by decide), icM σ n4, cI_rI]
        by_cases a3 : 0 ≤ c ∧ c < rd σ r 0
        · rw [decide_eq_true a3, bz_tt, if_neg (by decide), zI_0, show (1 : Int32) = zI 1 from zI_lit 1, ibM, cI_rI]
          by_cases a2 : 0 ≤ b ∧ b ≤ 1
          · rw [decide_eq_true a2, bz_tt, if_neg (by decide), ieM, cI_rI]
            by_cases a4 : 0 ≤ e ∧ e ≤ 1
            · rw [decide_eq_true a4, bz_tt, if_neg (by decide), show (11 : Int32) = zI 11 from zI_lit 11, iwM, cI_rI, decide_eq_false (show ¬ (w = 100 ∨ 0 ≤ w ∧ w < 11 + 1) by omega), bz_ff, if_pos (by decide)]
            · rw [decide_eq_false a4, bz_ff, if_pos (by decide)]
          · rw [decide_eq_false a2, bz_ff, if_pos (by decide)]
        · rw [decide_eq_false a3, bz_ff, if_pos (by decide)]
      · rw [decide_eq_false a1, bz_ff, if_pos (by decide)]
  obtain ⟨qa, qb, qc, qe, qw⟩ := Classical.not_not.mp q
  have hru : RuleAt σ r (rd σ r 0) := h.2.2.1.1
  have hN : NmOk (rd σ r 0) (rd σ (r + 1)) (rd σ (r + 2)) (rd σ (r + 3)) (rd σ (r + 4)) := hru.2.2
  have hI : ∀ τ, Fr STm σ τ → Inv r p l τ := fun τ F => by
    refine h.scr F ?_ ?_ (by rcases hbt.2.2 with rfl | rfl <;> rfl) (by rcases hbt.2.2 with rfl | rfl <;> repeat (first | exact trivial | refine ⟨fun _ => rfl, ?_⟩ | refine ⟨rfl, ?_⟩)) ?_ ⟨rfl, rfl⟩
    · repeat (first | exact trivial | refine ⟨fun _ => rfl, ?_⟩ | refine ⟨rfl, ?_⟩)
    · repeat (first | exact trivial | refine ⟨fun _ => rfl, ?_⟩ | refine ⟨rfl, ?_⟩)
    · repeat (first | exact trivial | refine ⟨fun _ => rfl, ?_⟩ | refine ⟨rfl, ?_⟩)
  have u1 : ∀ {τ υ : Sg}, Fr SFn τ υ → Fr STm τ υ := fun F => F.mono fun a k e => by
    simp only [STm, Bool.or_eq_false_iff] at e; exact e.1.1
  have u2 : ∀ {τ υ : Sg}, Fr SWb τ υ → Fr STm τ υ := fun F => F.mono fun a k e => by
    simp only [STm, Bool.or_eq_false_iff] at e; exact e.1.2
  have u3 : ∀ {τ υ : Sg}, Fr S132 τ υ → Fr STm τ υ := fun F => F.mono fun a k e => by
    simp only [STm, Bool.or_eq_false_iff] at e; exact e.2
  obtain ⟨Q, pr, kd, m, τ1, e1, hB, hQ, F1⟩ := find_sp (d := 95) hru n3.1 rfl rfl rfl rfl (s := 2 * a + b) (goal := 2 * c + e) (by omega) (by omega) (by omega) (by omega)
  have startN : f_N_term 100 (zI a) (zI b) (zI c) (zI e) (zI w) σ = cI (f_Row_findOnNames 99 r (zI (2 * a + b)) (zI (2 * c + e)) σ) fun v36 σ35 => if v36 = zI 0 then rI (-2) σ35 else cI (f_Row_tell 99 (zI w) σ35) fun v38 σ37 => rI v38 σ37 := by
    rw [f_N_term_eq, iaN, cI_rI, decide_eq_true qa, bz_tt, if_neg (by decide), ibN, cI_rI, decide_eq_true qb, bz_tt, if_neg (by decide), icN, cI_rI, decide_eq_true qc, bz_tt, if_neg (by decide), ieN, cI_rI, decide_eq_true qe, bz_tt, if_neg (by decide), if_neg (by decide), show (12 : Int32) = zI 12 from zI_lit 12, iwN, cI_rI, decide_eq_true qw, bz_tt, if_neg (by decide), n1, show (2 : Int32) = zI 2 from zI_lit 2, zI_mul, zI_mul, zI_add, zI_add, zI_0]
  have startM : ∀ υ : Sg, Fr STm σ υ → ∃ F υ', FIs (2 * c + e) alC (nxt (rd σ (r + 1)) (rd σ (r + 2)) (rd σ (r + 3)) (rd σ (r + 4))) (2 * rd σ r 0) F 12 ∧ (∀ v, 0 ≤ v → v < 12 → υ'.1 132 v.toNat = zI (F v)) ∧ Fr STm σ υ' ∧ MR4 υ' (rd σ r 0) (rd σ (r + 1)) (rd σ (r + 2)) (rd σ (r + 3)) (rd σ (r + 4)) ∧ f_M_term 100 (zI a) (zI b) (zI c) (zI e) (zI w) υ = if F (2 * a + b) < 1000000 then (if w = 100 then rI (zI (F (2 * a + b))) υ' else if w < F (2 * a + b) then f_M_term_113 99 (.int (zI a)) (.int (zI b)) (.int (zI c)) (.int (zI e)) (zI w) (zI (2 * a + b)) (zI 0) υ' else rI (-4) υ') else rI (-2) υ' := fun υ G => by
    have hm := h.2.2.1.mr4.fr G rfl (fun _ => rfl) (fun _ => rfl)
    have e5 : rd υ 102 5 = rd σ r 0 := (fr_rd G rfl).trans n4
    obtain ⟨F, υ', f1, f2, f3, f4⟩ := laysFar_sp (d := 95) hm hN (by rw [rd_k]; exact congrArg zI e5) n3.1 (goal := 2 * c + e) (by omega) (by omega)
    have fb := f4.1 (2 * a + b) (by omega) (by omega)
    have ku : (zI (F (2 * a + b)) < zI 1000000) = (F (2 * a + b) < 1000000) := zI_le (by omega) (by decide)
    have kw : (zI w < zI (F (2 * a + b))) = (w < F (2 * a + b)) := zI_le hw (by omega)
    have k100 : (zI w = zI 100) = (w = 100) := zI_eq hw (by decide)
    refine ⟨F, υ', f4, f3, G.tr (u3 f2), hm.fr f2 rfl (fun _ => rfl) (fun _ => rfl), ?_⟩
    rw [f_M_term_eq, iaM υ e5, cI_rI, decide_eq_true qa, bz_tt, if_neg (by decide), icM υ e5, cI_rI, decide_eq_true qc, bz_tt, if_neg (by decide), zI_0, show (1 : Int32) = zI 1 from zI_lit 1, ibM, cI_rI, decide_eq_true qb, bz_tt, if_neg (by decide), ieM, cI_rI, decide_eq_true qe, bz_tt, if_neg (by decide), show (11 : Int32) = zI 11 from zI_lit 11, iwM, cI_rI, decide_eq_true (show w = 100 ∨ 0 ≤ w ∧ w < 11 + 1 by omega), bz_tt, if_neg (by decide), show (2 : Int32) = zI 2 from zI_lit 2, zI_mul, zI_mul, zI_add, zI_add, f1, cV_rV, bnd_zI (by omega) (by omega) (by omega), bnd_zI (by omega) (by omega) (by omega), bnd_zI (by omega) (by omega) (by omega), ix_zI (by omega) (by omega), f3 _ (by omega) (by omega), show (1000000 : Int32) = zI 1000000 from zI_lit 1000000, show (100 : Int32) = zI 100 from zI_lit 100]
    simp only [ku, kw, k100]
  have mle := hB.le
  rcases hQ.2.2 (2 * c + e) (by omega) (by omega) with ⟨e63, hn⟩ | ⟨g, gm, qg, e63, -⟩
  · obtain ⟨F, υ', f1, f2, f3, f4, f5⟩ := startM τ1 (u1 F1)
    refine ⟨-2, τ1, υ', r, p, l, ?_, ?_, hI υ' f3⟩
    · rw [startN, e1, if_pos e63, rZ_z0, cI_rI, if_pos rfl]
    · rw [f5, if_neg]
      intro z
      have := f1.2.1 _ (by omega) (by omega) z
      rw [← hB.1.2.1] at this
      obtain ⟨g, gm, eg, -⟩ := hB.reach _ 0 hB.1.1 this
      exact hn g gm eg
  · obtain ⟨D, Dg, hD⟩ := hB.dp gm
    have prg : pr g < m := by
      rcases Nat.eq_zero_or_pos g with y | y
      · rw [y, hB.1.2.2]; omega
      · have := (hB.2.2.2.1 g y gm).1; omega
    have qpb := hB.2.1 _ prg
    obtain ⟨τ2, w1, w2, w3, w4⟩ := writeBack_sp (d := 97) (show 2 * rd σ r 0 ≤ 12 by omega) hB hQ gm hD
    rw [qg] at w1
    have kb : ∀ t, t < D → 0 ≤ kd (itN pr t g) ∧ kd (itN pr t g) < 8 := fun t ht => by
      have bb := hB.it_lt gm t
      have := hB.2.2.2.1 (itN pr t g) (Nat.pos_of_ne_zero (hD.2 t ht)) (by omega)
      exact ⟨this.2.2.1, this.2.2.2.1⟩
    obtain ⟨F, υ', f1, f2, f3, f4, f5⟩ := startM τ2 ((u1 F1).tr (u2 w2))
    rw [← qg] at f1
    have FD := node_F n3.2 hB gm hD f1 (t := D) (Nat.le_refl _) (by omega)
    rw [hD.1, hB.1.2.1] at FD
    have r62 : ∀ x : Int, 0 ≤ x → x < D → rd τ2 62 x = kd (itN pr (D - 1 - x.toNat) g) := fun x x0 x1 => rd_of (w4 x.toNat (by omega)) (by have := kb (D - 1 - x.toNat) (by omega); omega) (by have := kb (D - 1 - x.toNat) (by omega); omega)
    have tl := tell_sp (σ := τ2) (d := 98) (a := w) (s := (D : Int)) hw (rd_of (x := 0) w3 (by omega) (by omega)) (by omega) (by omega) (fun x x0 x1 => by rw [r62 x x0 x1]; exact kb _ (by omega))
    refine ⟨if w = 100 then zI (D : Int) else if 0 ≤ w ∧ w < (D : Int) then FC 1 (ix (zI (rd τ2 62 w))) else zI (-4), τ2, υ', r, p, l, ?_, ?_, hI υ' f3⟩
    · rw [startN, e1, if_neg (by rw [e63, zI_eq (by omega) (by decide)]; omega), w1, cV_rV, rZ_z1, cI_rI, if_neg (by decide), tl, cI_rI]
    · rw [f5, FD, if_pos (by omega)]
      by_cases y : w = 100
      · rw [if_pos y, if_pos y]
      · rw [if_neg y, if_neg y]
        by_cases z : w < D
        · obtain ⟨w', rfl⟩ : ∃ w' : Nat, w = w' := ⟨w.toNat, by omega⟩
          have t1 := term113_sp (d := 95) f4 hN hB gm hD f1 f2 (by omega) (w := w') (by omega) w' 0 (.int (zI a)) (.int (zI b)) (.int (zI c)) (.int (zI e)) (by omega)
          rw [Nat.sub_zero, hD.1, hB.1.2.1] at t1
          rw [if_pos z, if_pos ⟨by omega, z⟩, r62 _ (by omega) z, Int.toNat_natCast]
          exact t1
        · rw [if_neg z, if_neg (fun q => z q.2)]; rfl
