/-! the reference's village -/
def VM (v : Int → Int) (σ : Sg) : Prop := (∀ k : Int, 0 ≤ k → k < 20 → σ.1 103 k.toNat = zI (v k)) ∧ σ.1 102 79 = zI (v 20) ∧ σ.1 102 80 = zI (v 21) ∧ σ.1 102 81 = zI (v 22)
def MR (σ : Sg) (n : Int) (W H C : Int → Int) : Prop := rd σ 102 5 = n ∧ 0 ≤ n ∧ n ≤ 6 ∧ ∀ x, 0 ≤ x → x < n → rd σ 106 x = W x ∧ rd σ 107 x = C x ∧ 0 ≤ W x ∧ W x < n ∧ 0 ≤ H x ∧ H x < n ∧ H (W x) = x ∧ W (H x) = x ∧ 0 ≤ C x ∧ C x < n
def SM (b k : Nat) : Bool := b == 103 || b == 120 || b == 121 || (b == 102 && (k == 79 || k == 80 || k == 81 || k == 82))
def MS (l : Nat) (n : Int) (D : LD) (W H C v : Int → Int) (σ : Sg) : Prop := VM v σ ∧ VB n v ∧ MR σ n W H C ∧ ILaw l σ ∧ ldAt l σ = D
theorem VM.put {v : Int → Int} {σ : Sg} (h : VM v σ) {k y : Int} (k0 : 0 ≤ k) (k1 : k < 20) : VM (upI v k y) (sI σ 103 k.toNat (zI y)) := by
  obtain ⟨h1, h2, h3, h4⟩ := h
  refine ⟨fun j j0 j1 => ?_, ?_, ?_, ?_⟩
  · by_cases q : j = k
    · subst q; rw [sI_same, upI_same]
    · rw [sI_slot _ _ _ _ (by omega), upI_ne _ _ q]; exact h1 j j0 j1
  all_goals rw [sI_row _ _ _ _ _ (by decide), upI_ne _ _ (by omega)]; assumption
theorem VM.cnt {v : Int → Int} {σ : Sg} (h : VM v σ) (y : Int) : VM (upI v 20 y) (sI σ 102 79 (zI y)) ∧ VM (upI v 21 y) (sI σ 102 80 (zI y)) ∧ VM (upI v 22 y) (sI σ 102 81 (zI y)) := by
  obtain ⟨h1, h2, h3, h4⟩ := h
  refine ⟨⟨fun j j0 j1 => ?_, ?_, ?_, ?_⟩, ⟨fun j j0 j1 => ?_, ?_, ?_, ?_⟩, ⟨fun j j0 j1 => ?_, ?_, ?_, ?_⟩⟩
  all_goals try (rw [sI_row _ _ _ _ _ (by decide), upI_ne _ _ (by omega)]; exact h1 j j0 j1)
  all_goals try (rw [sI_same, upI_same]; done)
  all_goals rw [sI_slot _ _ _ _ (by decide), upI_ne _ _ (by decide)]; assumption
theorem VM.fr {S : Nat → Nat → Bool} {v : Int → Int} {σ σ' : Sg} (h : VM v σ) (F : Fr S σ σ') (h1 : ∀ k, S 103 k = false) (h2 : S 102 79 = false ∧ S 102 80 = false ∧ S 102 81 = false) : VM v σ' := by
  refine ⟨fun j j0 j1 => (F.2 _ _ (h1 _)).trans (h.1 j j0 j1), (F.2 _ _ h2.1).trans h.2.1, (F.2 _ _ h2.2.1).trans h.2.2.1, (F.2 _ _ h2.2.2).trans h.2.2.2⟩
theorem MR.fr {S : Nat → Nat → Bool} {n : Int} {W H C : Int → Int} {σ σ' : Sg} (h : MR σ n W H C) (F : Fr S σ σ') (h1 : S 102 5 = false) (h2 : ∀ k, S 106 k = false) (h3 : ∀ k, S 107 k = false) : MR σ' n W H C := by
  unfold MR at h ⊢
  rw [fr_rd F (a := 102) (y := 5) h1, fr_row F h2, fr_row F h3]; exact h
theorem SM_D {l : Nat} (hl : isL l) : ∀ b k, DLaw l b k = true → SM b k = false := by
  have := hl.le
  intro b k; simp [DLaw, SM]; omega
theorem MS.fr {l : Nat} {n : Int} {D : LD} {W H C v v' : Int → Int} {σ σ' : Sg} (hl : isL l) (h : MS l n D W H C v σ) (F : Fr SM σ σ') (h1 : VM v' σ') (h2 : VB n v') : MS l n D W H C v' σ' :=
  ⟨h1, h2, h.2.2.1.fr F rfl (fun _ => rfl) fun _ => rfl, h.2.2.2.1.fr F (SM_D hl), (ldAt_fr F (SM_D hl)).trans h.2.2.2.2⟩
theorem FM120 {σ σ' : Sg} (F : Fr S120 σ σ') : Fr SM σ σ' := F.mono fun b k e => by simp [SM] at e; simp [S120]; omega
theorem before_sp {σ : Sg} {a : Nat} (ha : SH a = (14, 6)) {x y : Int} (h0 : 0 ≤ y) (h6 : y < 6) (hx : -2147483648 ≤ x ∧ x < 2147483648) (hy : rd σ a y = x) (hl : ∀ j, 0 ≤ j → j < y → rd σ a j ≠ x) {d : Nat} : f_M_before (d + 1) a (zI x) σ = rI (zI y) σ := by
  rw [f_M_before_eq]
  have := zloop y (fun i (_ : Unit) => f_M_before_2 d a (zI x) (zI i) σ) (fun i _ => 0 ≤ i) (fun o => o = rI (zI y) σ) ?_ ?_ 0 () h0 (by decide)
  · exact this
  · intro i _ hi h1
    refine Or.inr ⟨(), ?_, by omega⟩
    show f_M_before_2 d a (zI x) (zI i) σ = _
    have b1 := rd_lo σ a i; have b2 := rd_hi σ a i
    have e := hl i h1 hi
    rw [f_M_before_2_eq, ldi_of ha h1 (by omega) (by omega), rd_k, toNat_c h1, if_neg (by rw [zI_eq (by omega) hx]; exact e), zI_lit, zI_add]
  · intro _ _
    show f_M_before_2 d a (zI x) (zI y) σ = _
    rw [f_M_before_2_eq, ldi_of ha h0 (by omega) (by omega), rd_k, toNat_c h0, hy, if_pos rfl]
theorem beforeW {σ : Sg} {n : Int} {W H C : Int → Int} (h : MR σ n W H C) {d : Nat} {x : Int} (h0 : 0 ≤ x) (h1 : x < n) : f_M_before (d + 1) 106 (zI x) σ = rI (zI (H x)) σ := by
  obtain ⟨-, n0, n6, h⟩ := h
  obtain ⟨-, -, -, -, a1, a2, -, a3, -⟩ := h x h0 h1
  refine before_sp rfl a1 (by omega) (by omega) ((h _ a1 a2).1.trans a3) fun j j0 j1 e => ?_
  obtain ⟨e1, -, -, -, -, -, e2, -⟩ := h j j0 (by omega)
  rw [e1] at e
  rw [e] at e2
  omega
theorem vSum_0 {n : Int} {v : Int → Int} (h : VB n v) : ∀ (k m : Nat), n ≤ m → m + k ≤ 6 → vSum v (m + k) = vSum v m
  | 0, _, _, _ => rfl
  | k + 1, m, h0, h6 => by
    show vSum v (m + k) + (v ((m + k : Nat) : Int) + v (6 + ((m + k : Nat) : Int)) + 2 * v (12 + ((m + k : Nat) : Int))) = _
    obtain ⟨z1, z2, z3⟩ := h.2.1 ((m + k : Nat) : Int) (by omega) (by omega) (by omega)
    rw [z1, z2, z3, vSum_0 h k m h0 (by omega)]; omega
theorem allM_sp {n : Int} {W H C v : Int → Int} {σ : Sg} (hv : VM v σ) (hb : VB n v) (hr : MR σ n W H C) {d : Nat} : f_M_allOfVillage (d + 1) σ = rI (zI (vSum v 6)) σ := by
  rw [f_M_allOfVillage_eq]
  obtain ⟨hn, n0, n6, -⟩ := hr
  have en : σ.1 102 5 = zI n := (rd_k σ 102 5).trans (congrArg zI hn)
  have := zloop n (fun i (s : Int) => f_M_allOfVillage_4 d (zI s) (zI i) σ) (fun i s => 0 ≤ i ∧ s = vSum v i.toNat) (fun o => o = rI (zI (vSum v 6)) σ) ?_ ?_ 0 0 n0 ⟨by decide, rfl⟩
  · exact this
  · rintro i s hi ⟨h0, rfl⟩
    refine Or.inr ⟨vSum v (i + 1).toNat, ?_, by omega, rfl⟩
    have e1 := hv.1 i h0 (by omega); have e2 := hv.1 (6 + i) (by omega) (by omega); have e3 := hv.1 (12 + i) (by omega) (by omega)
    show f_M_allOfVillage_4 d _ _ σ = f_M_allOfVillage_4 d _ _ σ
    rw [f_M_allOfVillage_4_eq, en, if_pos (by rw [zI_le (by omega) (by omega)]; exact hi)]
    simp (disch := first | assumption | omega) only [cI_rI, cV_rV, cJ_rJ, rZ_0, rZ_1, rZ_z0, rZ_z1, zI_lit, zI_ofNat, zI_add, zI_sub, zI_mul, zI_neg, Int.cast_ofNat_Int, Int.reduceNeg, Int.reduceAdd, Int.reduceSub, Int.reduceMul, bnd_zI, ix_zI, Int.zero_add, e1, e2, e3]
    rw [show (i + 1).toNat = i.toNat + 1 by omega]
    refine congrArg (fun z => f_M_allOfVillage_4 d (zI z) _ σ) ?_
    show _ = vSum v i.toNat + (v ((i.toNat : Nat) : Int) + v (6 + ((i.toNat : Nat) : Int)) + 2 * v (12 + ((i.toNat : Nat) : Int)))
    rw [toNat_c h0]; omega
  · rintro s ⟨h0, rfl⟩
    show f_M_allOfVillage_4 d _ _ σ = _
    rw [f_M_allOfVillage_4_eq, en, if_neg Int32.lt_irrefl]
    have := vSum_0 hb (6 - n.toNat) n.toNat (by omega) (by omega)
    rw [show n.toNat + (6 - n.toNat) = 6 by omega] at this
    rw [this]
theorem allOfM_sp {n : Int} {W H C v : Int → Int} {σ : Sg} (hv : VM v σ) (hr : MR σ n W H C) {d : Nat} {x : Int} (h0 : 0 ≤ x) (h1 : x < n) : f_M_allOfName (d + 2) (zI x) σ = rI (zI (v x + v (6 + x) + v (12 + x) + v (12 + H x))) σ := by
  have hb := beforeW hr (d := d) h0 h1
  obtain ⟨hn, n0, n6, hr⟩ := hr
  obtain ⟨-, -, -, -, c1, c2, -⟩ := hr x h0 h1
  have e1 := hv.1 x h0 (by omega); have e2 := hv.1 (6 + x) (by omega) (by omega); have e3 := hv.1 (12 + x) (by omega) (by omega); have e4 := hv.1 (12 + H x) (by omega) (by omega)
  rw [f_M_allOfName_eq]
  simp (disch := first | assumption | omega) only [cI_rI, cV_rV, cJ_rJ, rZ_0, rZ_1, rZ_z0, rZ_z1, zI_lit, zI_ofNat, zI_add, zI_sub, zI_mul, zI_neg, Int.cast_ofNat_Int, Int.reduceNeg, Int.reduceAdd, Int.reduceSub, Int.reduceMul, bnd_zI, ix_zI, Int.zero_add, e1, e2, e3, e4, hb]
theorem leftOf_sp {n : Int} {W H C v : Int → Int} {σ : Sg} (hv : VM v σ) (hr : MR σ n W H C) {d : Nat} {x : Int} (h0 : 0 ≤ x) (h1 : x < n) : f_M_leftOf (d + 1) (zI x) σ = rI (zI (v x - v (6 + W x))) σ := by
  obtain ⟨hn, n0, n6, hr⟩ := hr
  obtain ⟨w, -, c1, c2, -⟩ := hr x h0 h1
  have w' : σ.1 106 x.toNat = zI (W x) := by rw [rd_k, toNat_c h0, w]
  have e1 := hv.1 x h0 (by omega); have e2 := hv.1 (6 + W x) (by omega) (by omega)
  rw [f_M_leftOf_eq]
  simp (disch := first | assumption | omega) only [cI_rI, cV_rV, cJ_rJ, rZ_0, rZ_1, rZ_z0, rZ_z1, zI_lit, zI_ofNat, zI_add, zI_sub, zI_mul, zI_neg, Int.cast_ofNat_Int, Int.reduceNeg, Int.reduceAdd, Int.reduceSub, Int.reduceMul, bnd_zI, ix_zI, Int.zero_add, w', e1, e2]
theorem feels_sp {l : Nat} {n : Int} {D : LD} {W H C v : Int → Int} {σ : Sg} (hl : isL l) (h : MS l n D W H C v σ) {d : Nat} {x : Int} (h0 : 0 ≤ x) (h1 : x < n) : ∃ σ', f_M_feels (d + 3) (zI x) σ = rV σ' ∧ MS l n D W H C (vDraw v) σ' ∧ (∀ j : Int, 0 ≤ j → j < 8 → σ'.1 121 j.toNat = vFac W H (vDraw v) x j) ∧ σ'.1 102 82 = zI (vDraw v 19 % 10) ∧ Fr SM σ σ' := by
  have hl' := hl.le
  have hh := h
  obtain ⟨hv, hb, hr, -⟩ := h
  have hbd := hb.draw
  obtain ⟨b1, b2, b3, b4, b5, b6⟩ := hb
  obtain ⟨hn, n0, n6, hr'⟩ := id hr
  obtain ⟨w, -, c1, c2, c3, c4, -⟩ := hr' x h0 h1
  have hXr : 0 ≤ (25173 * v 19 + 13849) % 65536 ∧ (25173 * v 19 + 13849) % 65536 < 65536 := by omega
  have hDX : vDraw v 19 = (25173 * v 19 + 13849) % 65536 := upI_same _ _ _
  have P1 : VM (vDraw v) (sI σ 103 19 (zI ((25173 * v 19 + 13849) % 65536))) := hv.put (k := 19) (by decide) (by decide)
  have a4 : σ.1 103 19 = zI (v 19) := hv.1 19 (by decide) (by decide)
  generalize hu : vDraw v = u at *
  generalize hX : (25173 * v 19 + 13849) % 65536 = X at hXr hDX P1
  have F1 : Fr SM σ (sI σ 103 19 (zI X)) := (Fr.rf _ σ).sI _ rfl
  have F1' := F1.sI (zI (X % 10)) (show SM 102 82 = true from rfl)
  have F2 := F1'.sI (zI x) (show SM 121 0 = true from rfl)
  have F3 := F2.sI (zI (u x)) (show SM 121 1 = true from rfl)
  have F4 := F3.sI (zI (u (6 + W x))) (show SM 121 2 = true from rfl)
  have F5 := F4.sI (zI (u (12 + x))) (show SM 121 3 = true from rfl)
  have F6 := F5.sI (zI (u x + u (6 + x) + u (12 + x) + u (12 + H x))) (show SM 121 4 = true from rfl)
  have F7 := F6.sI (zI (vSum u 6)) (show SM 121 5 = true from rfl)
  have F8 := F7.sI (zI (u 18 % 100)) (show SM 121 6 = true from rfl)
  have F9 := F8.sI (zI (X % 10)) (show SM 121 7 = true from rfl)
  have T : ∀ (τ : Sg) (b k : Nat) (y : Int32), b ≠ 103 → (b ≠ 102 ∨ k = 82) → VM u τ → VM u (sI τ b k y) := fun τ b k y q1 q2 h => by
    refine ⟨fun j j0 j1 => ?_, ?_, ?_, ?_⟩
    · rw [sI_row _ _ _ _ _ (by omega)]; exact h.1 j j0 j1
    · rw [sI_1, if_neg (by omega)]; exact h.2.1
    · rw [sI_1, if_neg (by omega)]; exact h.2.2.1
    · rw [sI_1, if_neg (by omega)]; exact h.2.2.2
  have s19 : (sI σ 103 19 (zI X)).1 103 19 = zI X := sI_same _ _ _ _
  generalize hs1 : sI σ 103 19 (zI X) = s1 at F1 F1' F2 F3 F4 F5 F6 F7 F8 F9 P1 s19
  have P1' := T s1 102 82 (zI (X % 10)) (by decide) (Or.inr rfl) P1
  have d1 : (sI s1 102 82 (zI (X % 10))).1 102 82 = zI (X % 10) := sI_same _ _ _ _
  generalize hs1' : sI s1 102 82 (zI (X % 10)) = t1 at F1' F2 F3 F4 F5 F6 F7 F8 F9 P1' d1
  have P2 := T t1 121 0 (zI x) (by decide) (by decide) P1'
  generalize hs2 : sI t1 121 0 (zI x) = s2 at F2 F3 F4 F5 F6 F7 F8 F9 P2
  have P3 := T s2 121 1 (zI (u x)) (by decide) (by decide) P2
  generalize hs3 : sI s2 121 1 (zI (u x)) = s3 at F3 F4 F5 F6 F7 F8 F9 P3
  have P4 := T s3 121 2 (zI (u (6 + W x))) (by decide) (by decide) P3
  generalize hs4 : sI s3 121 2 (zI (u (6 + W x))) = s4 at F4 F5 F6 F7 F8 F9 P4
  have P5 := T s4 121 3 (zI (u (12 + x))) (by decide) (by decide) P4
  generalize hs5 : sI s4 121 3 (zI (u (12 + x))) = s5 at F5 F6 F7 F8 F9 P5
  have P6 := T s5 121 4 (zI (u x + u (6 + x) + u (12 + x) + u (12 + H x))) (by decide) (by decide) P5
  generalize hs6 : sI s5 121 4 (zI (u x + u (6 + x) + u (12 + x) + u (12 + H x))) = s6 at F6 F7 F8 F9 P6
  have P7 := T s6 121 5 (zI (vSum u 6)) (by decide) (by decide) P6
  generalize hs7 : sI s6 121 5 (zI (vSum u 6)) = s7 at F7 F8 F9 P7
  have P8 := T s7 121 6 (zI (u 18 % 100)) (by decide) (by decide) P7
  have d8 : (sI s7 121 6 (zI (u 18 % 100))).1 102 82 = zI (X % 10) := by
    rw [sI_row _ _ _ _ _ (by decide), ← hs7, sI_row _ _ _ _ _ (by decide), ← hs6, sI_row _ _ _ _ _ (by decide), ← hs5, sI_row _ _ _ _ _ (by decide), ← hs4, sI_row _ _ _ _ _ (by decide), ← hs3, sI_row _ _ _ _ _ (by decide), ← hs2, sI_row _ _ _ _ _ (by decide)]; exact d1
  generalize hs8 : sI s7 121 6 (zI (u 18 % 100)) = s8 at F8 F9 P8 d8
  have P9 := T s8 121 7 (zI (X % 10)) (by decide) (by decide) P8
  have d9 : (sI s8 121 7 (zI (X % 10))).1 102 82 = zI (X % 10) := by rw [sI_row _ _ _ _ _ (by decide)]; exact d8
  generalize hs9 : sI s8 121 7 (zI (X % 10)) = s9 at F9 P9 d9
  have R : ∀ {τ : Sg}, Fr SM σ τ → MR τ n W H C := fun F => hr.fr F rfl (fun _ => rfl) fun _ => rfl
  have m2 := P2.1 x h0 (by omega)
  have w3 : s3.1 106 x.toNat = zI (W x) := by rw [F3.2 106 _ rfl, rd_k, toNat_c h0, w]
  have m3 := P3.1 (6 + W x) (by omega) (by omega)
  have m4 := P4.1 (12 + x) (by omega) (by omega)
  have m5 := allOfM_sp P5 (R F5) (d := d) h0 h1
  have m6 := allM_sp P6 hbd (R F6) (d := d + 1)
  have m7 : s7.1 103 18 = zI (u 18) := P7.1 18 (by decide) (by decide)
  have u18 := hbd.2.2
  have ed : f_M_draws (d + 2) σ = rI (zI (X % 10)) s1 := by
    rw [f_M_draws_eq]
    simp (disch := first | assumption | omega) only [cI_rI, cV_rV, cJ_rJ, rZ_0, rZ_1, rZ_z0, rZ_z1, zI_lit, zI_ofNat, zI_add, zI_sub, zI_mul, zI_neg, Int.cast_ofNat_Int, Int.reduceNeg, Int.reduceAdd, Int.reduceSub, Int.reduceMul, bnd_zI, ix_zI, Int.reduceToNat, a4, rmI_nn, hX, hs1, s19]
  refine ⟨s9, ?_, hh.fr hl F9 P9 hbd, fun j j0 j8 => ?_, ?_, F9⟩
  · rw [f_M_feels_eq, ed, cI_rI]
    simp (disch := first | assumption | omega) only [cI_rI, cV_rV, cJ_rJ, rZ_0, rZ_1, rZ_z0, rZ_z1, zI_lit, zI_ofNat, zI_add, zI_sub, zI_mul, zI_neg, Int.cast_ofNat_Int, Int.reduceNeg, Int.reduceAdd, Int.reduceSub, Int.reduceMul, bnd_zI, ix_zI, Int.reduceToNat, Int.zero_add, hs1', hs2, m2, hs3, w3, m3, hs4, m4, hs5, m5, hs6, m6, hs7, m7, rmI_nn, hs8, d8, hs9]
  · rcases (show j = 0 ∨ j = 1 ∨ j = 2 ∨ j = 3 ∨ j = 4 ∨ j = 5 ∨ j = 6 ∨ j = 7 by omega) with e | e | e | e | e | e | e | e <;> subst e
    all_goals simp (disch := first | assumption | omega) only [Int.reduceToNat, ← hs9, ← hs8, ← hs7, ← hs6, ← hs5, ← hs4, ← hs3, ← hs2, sI_same, sI_slot]
    all_goals unfold vFac
    all_goals simp (disch := first | assumption | omega) only [rd_k, toNat_c, Int.reduceEq, Int.reduceLT, Int.reduceNe, if_true, if_false, reduceIte, Nat.reduceAdd, hDX]
  · rw [hDX]; exact d9
