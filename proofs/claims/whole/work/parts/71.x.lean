def SAk (a k : Nat) : Bool := SNw a k || SNa 55 a k || SMw a k || a == 130 || (a == 102 && k == 7)
theorem c_alike {σ : Sg} {r p l : Nat} (h : Inv r p l σ) (n m s : Int32) : Same (f_N_alike 100 n m s) (f_M_alike 100 n m s) σ := by
  obtain ⟨n, rfl, hn⟩ := zI_ex n
  obtain ⟨m, rfl, hm⟩ := zI_ex m
  obtain ⟨s, rfl, hs⟩ := zI_ex s
  obtain ⟨n1, n2, n3, n4⟩ := h.n
  have hb := h.bits
  obtain ⟨t0, t1, t2, t3⟩ := h.2.1
  have n02 := h.2.2.1.2.1
  have er0 : σ.1 r 0 = zI (rd σ r 0) := rd_k σ r 0
  have em0 : σ.1 102 5 = zI (rd σ r 0) := by rw [← n4]; exact rd_k σ 102 5
  have e7 : σ.1 102 7 = zI (rd σ 5 1) := by rw [← t2]; exact rd_k σ 102 7
  have e51 : σ.1 5 1 = zI (rd σ 5 1) := rd_k σ 5 1
  have sN := isSort_sp (σ := σ) (d := 98) hs
  have tN := isTapeHas (σ := σ) (d := 98) (a := n) (m := 40) (by decide) hn
  have inM := fun (τ : Sg) => in_sp (σ := τ) (d := 98) (a := n) (b := 1) (c := 40) hn (by decide) (by decide)
  have imM := fun (τ : Sg) => in_sp (σ := τ) (d := 98) (a := m) (b := 1) (c := 40) hm (by decide) (by decide)
  have isM := fun (τ : Sg) => in_sp (σ := τ) (d := 98) (a := s) (b := 0) (c := 1) hs (by decide) (by decide)
  have k0 : (zI (rd σ r 0) = zI 0) = (rd σ r 0 = 0) := zI_eq (by omega) (by decide)
  have k1 : (zI m < zI 1) = (m < 1) := zI_le hm (by decide)
  have k2 : (zI 40 < zI m) = (40 < m) := zI_le (by decide) hm
  have k3 : 1 ≤ n → n ≤ 40 → 1 ≤ m → m ≤ 40 → (zI (rd σ 5 1) < zI n + zI m) = (rd σ 5 1 < n + m) := fun a b c d => by rw [zI_add]; exact zI_le (by omega) (by omega)
  by_cases q : ¬ ((0 ≤ s ∧ s ≤ 1) ∧ (1 ≤ m ∧ m ≤ 40) ∧ (1 ≤ n ∧ n ≤ 40 ∧ n ≤ rd σ 5 1) ∧ rd σ r 0 ≠ 0 ∧ n + m ≤ rd σ 5 1)
  · refine ⟨-1, σ, σ, r, p, l, ?_, ?_, h⟩
    · have t0 : ∀ X, (if zI (rd σ r 0) = 0 then rI (-1) σ else if (0 : Int32) = 0 then rI (-1) σ else X) = rI (-1) σ := fun X => by
        by_cases z : zI (rd σ r 0) = 0
        · rw [if_pos z]
        · rw [if_neg z, if_pos rfl]
      rw [f_N_alike_eq, sN, cI_rI]
      by_cases a1 : 0 ≤ s ∧ s ≤ 1
      · rw [decide_eq_true a1, bz_tt, if_neg (by decide)]
        by_cases a2 : m < 1
        · rw [if_pos (by rw [show (1 : Int32) = zI 1 from zI_lit 1, k1]; exact a2), n1, gfI_of n2, er0]
          exact t0 _
        rw [if_neg (by rw [show (1 : Int32) = zI 1 from zI_lit 1, k1]; exact a2)]
        by_cases a3 : 40 < m
        · rw [if_pos (by rw [show (40 : Int32) = zI 40 from zI_lit 40, k2]; exact a3), n1, gfI_of n2, er0]
          exact t0 _
        rw [if_neg (by rw [show (40 : Int32) = zI 40 from zI_lit 40, k2]; exact a3), show (40 : Int32) = zI 40 from zI_lit 40, tN, cI_rI]
        by_cases a4 : 1 ≤ n ∧ n ≤ 40 ∧ n ≤ rd σ 5 1
        · rw [decide_eq_true a4, bz_tt, if_neg (by decide), n1, gfI_of n2, er0]
          by_cases a5 : rd σ r 0 = 0
          · rw [if_pos (by rw [zI_0, k0]; exact a5)]
          · rw [if_neg (by rw [zI_0, k0]; exact a5), if_neg (by decide), e51, if_pos (by rw [k3 a4.1 a4.2.1 (by omega) (by omega)]; omega)]
        · rw [decide_eq_false a4, bz_ff, if_pos (by decide), n1, gfI_of n2, er0]
          exact t0 _
      · rw [decide_eq_false a1, bz_ff, if_pos (by decide), n1, gfI_of n2, er0]
        exact t0 _
    · rw [f_M_alike_eq, show (40 : Int32) = zI 40 from zI_lit 40, zI_0, show (1 : Int32) = zI 1 from zI_lit 1, inM, cI_rI]
      by_cases a1 : 1 ≤ n ∧ n ≤ 40
      · rw [decide_eq_true a1, bz_tt, if_neg (by decide), imM, cI_rI]
        by_cases a2 : 1 ≤ m ∧ m ≤ 40
        · rw [decide_eq_true a2, bz_tt, if_neg (by decide), isM, cI_rI]
          by_cases a3 : 0 ≤ s ∧ s ≤ 1
          · rw [decide_eq_true a3, bz_tt, if_neg (by decide), em0]
            by_cases a5 : rd σ r 0 = 0
            · rw [if_pos (by rw [k0]; exact a5)]
            · rw [if_neg (by rw [k0]; exact a5), e7, if_pos (by rw [k3 a1.1 a1.2 a2.1 a2.2]; omega)]
          · rw [decide_eq_false a3, bz_ff, if_pos (by decide)]
        · rw [decide_eq_false a2, bz_ff, if_pos (by decide)]
      · rw [decide_eq_false a1, bz_ff, if_pos (by decide)]
  obtain ⟨qs, qm, qn, q0, qh⟩ := Classical.not_not.mp q
  have s01 : s = 0 ∨ s = 1 := by omega
  obtain ⟨σ1, σ2, et, e1, eN, F02, x1, bd, rest⟩ := wordBoth h (n := n) (s := s) qn s01 98 95 95
  have n12 : σ2.2.2 4 1 = r := by rw [F02.1]; exact n1
  have startN : f_N_alike 100 (zI n) (zI m) (zI s) σ = if wRes (rd σ 6) n s = 0 then alkN n m s σ2 else rI (zI (wRes (rd σ 6) n s)) σ2 := by
    have kz : (zI (wRes (rd σ 6) n s) = zI 0) = (wRes (rd σ 6) n s = 0) := zI_eq (by omega) (by decide)
    rw [f_N_alike_eq, sN, cI_rI, decide_eq_true qs, bz_tt, if_neg (by decide), if_neg (by rw [show (1 : Int32) = zI 1 from zI_lit 1, k1]; omega), if_neg (by rw [show (40 : Int32) = zI 40 from zI_lit 40, k2]; omega), show (40 : Int32) = zI 40 from zI_lit 40, tN, cI_rI, decide_eq_true qn, bz_tt, if_neg (by decide), n1, gfI_of n2, er0, if_neg (by rw [zI_0, k0]; exact q0), if_neg (by decide), e51, if_neg (by rw [k3 qn.1 qn.2.1 qm.1 qm.2]; omega), zI_0, show (1 : Int32) = zI 1 from zI_lit 1, et, cV_rV, eN, cI_rI]
    simp only [kz]
    rfl
  have startM : ∀ υ : Sg, υ.1 102 5 = zI (rd σ r 0) → υ.1 102 7 = zI (rd σ 5 1) → f_M_alike 100 (zI n) (zI m) (zI s) υ = cI (f_M_readsWord 99 (zI 0) (zI n) (zI s) υ) fun v8 σ7 => cI (f_M_sortBehind 99 (zI s) σ7) fun v10 σ9 => f_M_alike_67 99 (zI n) (zI m) (zI s) v8 v10 (zI 0) .null .null σ9 := fun υ u5 u7 => by
    rw [f_M_alike_eq, show (40 : Int32) = zI 40 from zI_lit 40, zI_0, show (1 : Int32) = zI 1 from zI_lit 1, inM, cI_rI, decide_eq_true (show 1 ≤ n ∧ n ≤ 40 by omega), bz_tt, if_neg (by decide), imM, cI_rI, decide_eq_true qm, bz_tt, if_neg (by decide), isM, cI_rI, decide_eq_true qs, bz_tt, if_neg (by decide), u5, if_neg (by rw [k0]; exact q0), u7, if_neg (by rw [k3 qn.1 qn.2.1 qm.1 qm.2]; omega)]
  have hI : ∀ τ, Fr SAk σ τ → rd τ 5 1 = 0 → rd τ 102 7 = 0 → Inv r p l τ := fun τ F g g' => by
    refine h.took F ?_ ?_ (by rcases hb.2.2 with rfl | rfl <;> rfl) (by rcases hb.2.2 with rfl | rfl <;> repeat (first | exact trivial | refine ⟨fun _ => rfl, ?_⟩ | refine ⟨rfl, ?_⟩)) g g'
    · repeat (first | exact trivial | refine ⟨fun _ => rfl, ?_⟩ | refine ⟨rfl, ?_⟩)
    · repeat (first | exact trivial | refine ⟨fun _ => rfl, ?_⟩ | refine ⟨rfl, ?_⟩)
  have uN : ∀ {τ υ : Sg}, Fr SNw τ υ → Fr SAk τ υ := fun F => F.mono fun a k e => by
    simp only [SAk, Bool.or_eq_false_iff] at e; exact e.1.1.1.1
  have uA : ∀ {τ υ : Sg}, Fr (SNa 55) τ υ → Fr SAk τ υ := fun F => F.mono fun a k e => by
    simp only [SAk, Bool.or_eq_false_iff] at e; exact e.1.1.1.2
  have uM : ∀ {τ υ : Sg}, Fr SMw τ υ → Fr SAk τ υ := fun F => F.mono fun a k e => by
    simp only [SAk, Bool.or_eq_false_iff] at e; exact e.1.1.2
  have uO : ∀ {τ υ : Sg}, Fr (fun a _ => a == 130) τ υ → Fr SAk τ υ := fun F => F.mono fun a k e => by
    simp only [SAk, Bool.or_eq_false_iff] at e; exact e.1.2
  by_cases z : wRes (rd σ 6) n s = 0
  · obtain ⟨σ4, σ5, et2, e2, eN2, F25, x5, bd2, rest2⟩ := wordTwo (τ := σ2) h (f := n) (n := m) (s := s) (by omega) qm.1 qh s01 (a := 55) (Or.inr rfl) (fun k => F02.2 _ _ rfl) 98 95 95
    have F05 : Fr SAk σ σ5 := (uN F02).tr (uA F25)
    obtain ⟨σ6, F56, eM, hW, -⟩ := rest σ5 (fun k => (F25.2 _ _ rfl).trans (F02.2 _ _ rfl))
    obtain ⟨W, w1, w2, w3, w4, -⟩ := hW z
    have hru : RuleAt σ5 r (rd σ r 0) := by
      have := (h.2.2.1.fr F05 (by
        intro a k e
        rcases hb.1 with rfl | rfl <;> simp [DRule] at e <;> rcases e with ((((((rfl | rfl) | rfl) | rfl) | rfl) | ⟨rfl, rfl⟩) | rfl) | rfl <;> rfl)).1
      rw [fr_rd F05 (by rcases hb.1 with rfl | rfl <;> rfl)] at this
      exact this
    have frw : ∀ a, a = r + 1 ∨ a = r + 2 ∨ a = r + 3 ∨ a = r + 4 → rd σ5 a = rd σ a := fun a ha => fr_row F05 fun k => by
      rcases hb.1 with rfl | rfl <;> rcases ha with rfl | rfl | rfl | rfl <;> rfl
    have F06 : Fr SAk σ σ6 := F05.tr (uM F56)
    have em5 : σ5.1 102 5 = zI (rd σ r 0) := (F05.2 _ _ rfl).trans em0
    have em7 : σ5.1 102 7 = zI (rd σ 5 1) := (F25.2 _ _ rfl).trans ((F02.2 _ _ rfl).trans e7)
    have em6 : σ6.1 102 5 = zI (rd σ r 0) := (F06.2 _ _ rfl).trans em0
    have hm6 := h.2.2.1.mr4.fr F06 rfl (fun _ => rfl) (fun _ => rfl)
    have hN : NmOk (rd σ r 0) (rd σ (r + 1)) (rd σ (r + 2)) (rd σ (r + 3)) (rd σ (r + 4)) := h.2.2.1.1.2.2
    have hG := fun k s x h0 h1 => goF_lt hN (k := k) (s := s) (x := x) h0 h1
    have hf : fOf σ5 r W s = ldF (goF (rd σ (r + 1)) (rd σ (r + 2)) (rd σ (r + 3)) (rd σ (r + 4))) W.st W.size.toNat 0 s := by
      unfold fOf gOf; rw [frw _ (by simp), frw (r + 2) (by simp), frw (r + 3) (by simp), frw (r + 4) (by simp)]
    have se1 := sortEndM_sp (d := 97) (s := s) w4 w2 w3
    obtain ⟨τ, Fτ, eτ, hτ⟩ := alikeFill (x1 := zI n) (x2 := zI m) (x5 := zI (W.st (W.size - 1) % 2)) (v7 := .null) (v8 := .null) w4 w2 hm6 n3 em6 s01 hf.symm.symm hG (rd σ r 0).toNat 0 σ6 (by omega) (by decide) (Fr.rf _ _) (fun y y0 y1 => by omega)
    have F0τ : Fr SAk σ τ := F06.tr (uO Fτ)
    obtain ⟨σ7, F7, eM2, hV, -⟩ := rest2 τ (fun k => (Fτ.2 _ _ rfl).trans ((F56.2 _ _ rfl).trans ((F25.2 _ _ rfl).trans (F02.2 _ _ rfl))))
    have F08 : Fr SAk σ (sI σ7 102 7 (zI 0)) := (F0τ.tr (uM F7)).sI _ rfl
    have y51 : rd (sI σ7 102 7 (zI 0)) 5 1 = 0 := by
      rw [rd_other (by decide), fr_rd F7 rfl, fr_rd Fτ rfl, fr_rd F56 rfl]; exact x5
    have hI8 := hI _ F08 y51 (rd_same rfl (by decide) (by decide))
    have eτ5 : τ.1 102 5 = zI (rd σ r 0) := (F0τ.2 _ _ rfl).trans em0
    have goM : f_M_alike 100 (zI n) (zI m) (zI s) σ5 = if wRes (fun j => rd σ 6 (n + j)) m s < 0 then rI (zI (wRes (fun j => rd σ 6 (n + j)) m s) - zI 100000) (sI σ7 102 7 (zI 0)) else cI (f_M_sortBehind 99 (zI s) (sI σ7 102 7 (zI 0))) fun v16 σ15 => if zI (W.st (W.size - 1) % 2) = v16 then f_M_alike_163 99 (.int (zI n)) (.int (zI m)) (zI s) (.int (zI 0)) (.int (zI (W.st (W.size - 1) % 2))) (.int (zI (wRes (fun j => rd σ 6 (n + j)) m s))) (zI 0) (zI 0) σ15 else rI (-4) σ15 := by
      have kz : (zI (wRes (fun j => rd σ 6 (n + j)) m s) < zI 0) = (wRes (fun j => rd σ 6 (n + j)) m s < 0) := zI_le (by omega) (by decide)
      rw [startM σ5 em5 em7, eM, cI_rI, se1, cI_rI, z, eτ, f_M_alike_67_eq, eτ5, if_neg Int32.lt_irrefl, zI_0, if_pos rfl, eM2, cI_rI, show (100000 : Int32) = zI 100000 from zI_lit 100000]
      simp only [kz, show ¬ (zI 0 < zI 0) from Int32.lt_irrefl, if_false]
    have goN : f_N_alike 100 (zI n) (zI m) (zI s) σ = if wRes (fun j => rd σ 6 (n + j)) m s = 0 then cI (f_Word_sortAtEnd 99 49 σ5) fun v57 σ56 => cI (f_Word_sortAtEnd 99 55 σ56) fun v59 σ58 => if v57 = v59 then f_N_alike_159 99 (.int (zI n)) (.int (zI m)) (zI s) (.int (zI 1)) (.int (zI (wRes (fun j => rd σ 6 (n + j)) m s))) (zI 0) (zI 0) σ58 else rI (-4) σ58 else rI ((-100000) + zI (wRes (fun j => rd σ 6 (n + j)) m s)) σ5 := by
      have kz : (zI (wRes (fun j => rd σ 6 (n + j)) m s) = zI 0) = (wRes (fun j => rd σ 6 (n + j)) m s = 0) := zI_eq (by omega) (by decide)
      rw [startN, if_pos z]
      unfold alkN
      rw [et2, cV_rV, eN2, cI_rI]
      simp only [kz]
    by_cases z2 : wRes (fun j => rd σ 6 (n + j)) m s = 0
    · obtain ⟨V, v1, v2, v3, v4⟩ := hV z2
      have mo : MWo V (sI σ7 102 7 (zI 0)) := v4
      have c1 : CWo 49 W σ5 := ⟨(F25.2 _ _ rfl).trans w1.1, fun x x0 x1 => ⟨(F25.2 _ _ rfl).trans (w1.2 x x0 x1).1, (F25.2 _ _ rfl).trans (w1.2 x x0 x1).2⟩⟩
      have sN1 := sortEnd_sp (a := 49) (d := 97) (Or.inl rfl) c1 w2 w3
      have sN2 := sortEnd_sp (a := 55) (d := 97) (Or.inr rfl) v1 v2 v3
      have sM2 := sortEndM_sp (d := 97) (s := s) mo v2 v3
      have hm8 := h.2.2.1.mr4.fr F08 rfl (fun _ => rfl) (fun _ => rfl)
      have n15 : σ5.2.2 4 1 = r := by rw [F05.1]; exact n1
      rw [if_pos z2, sN1, cI_rI, sN2, cI_rI] at goN
      rw [if_neg (by omega), sM2, cI_rI] at goM
      by_cases ee : zI (W.st (W.size - 1) % 2) = zI (V.st (V.size - 1) % 2)
      · rw [if_pos ee] at goN goM
        obtain ⟨u, a1, a2⟩ := alikeLoop (f := fOf σ5 r W s) c1 v1 w2 v2 mo hru n15 hm8 n3.1 ((F08.2 _ _ rfl).trans em0) (frw _ (by simp)) (frw _ (by simp)) (frw _ (by simp)) (frw _ (by simp)) s01 rfl (fun y y0 y1 => by
          rw [sI_row _ _ _ _ _ (by decide), F7.2 _ _ rfl, hτ y y0 y1, hf]) (rd σ r 0).toNat 0 (zI 0) (.int (zI (wRes (fun j => rd σ 6 (n + j)) m s))) (.int (zI n)) (.int (zI m)) (.int (zI 1)) (.int (zI n)) (.int (zI m)) (.int (zI 0)) (.int (zI (W.st (W.size - 1) % 2))) (.int (zI (wRes (fun j => rd σ 6 (n + j)) m s))) (by omega) (by decide)
        exact ⟨u, σ5, _, r, p, l, goN.trans a1, goM.trans a2, hI8⟩
      · rw [if_neg ee] at goN goM
        exact ⟨_, σ5, _, r, p, l, goN, goM, hI8⟩
    · rw [if_neg z2] at goN
      rw [if_pos (by omega), zI_sub] at goM
      rw [show (-100000 : Int32) = zI (-100000) from rfl, zI_add, show -100000 + wRes (fun j => rd σ 6 (n + j)) m s = wRes (fun j => rd σ 6 (n + j)) m s - 100000 by omega] at goN
      exact ⟨_, σ5, _, r, p, l, goN, goM, hI8⟩
  · obtain ⟨σ3, F3, eM, -, zz, hz, z0, z24⟩ := rest σ2 (fun k => F02.2 _ _ rfl)
    obtain ⟨v, hv⟩ := sortEndAny (d := 97) (s := s) hz z0 z24
    have F03 : Fr SAk σ (sI σ3 102 7 (zI 0)) := ((uN F02).tr (uM F3)).sI _ rfl
    have em3 : σ3.1 102 5 = zI (rd σ r 0) := (F3.2 _ _ rfl).trans ((F02.2 _ _ rfl).trans em0)
    refine ⟨zI (wRes (rd σ 6) n s), σ2, sI σ3 102 7 (zI 0), r, p, l, by rw [startN, if_neg z], ?_, hI _ F03 ?_ (rd_same rfl (by decide) (by decide))⟩
    · rw [startM σ2 ((F02.2 _ _ rfl).trans em0) ((F02.2 _ _ rfl).trans e7), eM, cI_rI, hv, cI_rI, f_M_alike_67_eq, em3, if_pos (by rw [zI_le (by decide) (by omega)]; omega), zI_0, if_neg (by rw [zI_eq (by omega) (by decide)]; exact z), if_neg (by rw [zI_eq (by omega) (by decide)]; exact z)]
      show (if zI (wRes (rd σ 6) n s) < zI 0 then _ else _) = _
      rw [if_pos (by rw [zI_le (by omega) (by decide)]; omega)]
    · rw [rd_other (by decide), fr_rd F3 rfl]; exact x1
