theorem vGo_1 (l la : Nat) (D : LD) (W H C : Int → Int) (n : Nat) (v : Int → Int) : vGo l la D W H C n 1 v = if v 18 < 9999 then vYear l la D W H C n v else v := rfl
/-- a year does not look at the counts -/
def same23 (v u : Int → Int) : Prop := ∀ k, k < 20 → v k = u k
theorem same23.fac {v u : Int → Int} (h : same23 v u) (W H : Int → Int) {x : Int} (hx : x < 6) (hw : W x < 6) (hh : H x < 6) : vFac W H v x = vFac W H u x := by
  funext j
  unfold vFac
  rw [h x (by omega), h (6 + W x) (by omega), h (12 + x) (by omega), h (6 + x) (by omega), h (12 + H x) (by omega), h 18 (by decide), h 19 (by decide), vSum_congr (v := v) (u := u) 6 fun k _ h1 => ⟨h _ (by omega), h _ (by omega), h _ (by omega)⟩]
theorem same23.up {v u : Int → Int} (h : same23 v u) {k x y : Int} (e : k < 20 → x = y) : same23 (upI v k x) (upI u k y) := fun j hj => by
  by_cases q : j = k
  · subst q; rw [upI_same, upI_same]; exact e hj
  · rw [upI_ne _ _ q, upI_ne _ _ q]; exact h j hj
theorem same23.draw {v u : Int → Int} (h : same23 v u) : same23 (vDraw v) (vDraw u) := h.up fun _ => by rw [h 19 (by decide)]
theorem same23.wed {v u : Int → Int} (h : same23 v u) {W : Int → Int} {x : Int} (hx : x < 6) (hw : W x < 6) (any : Bool) (wo : Int) : same23 (vWed W x any wo v) (vWed W x any wo u) := by
  unfold vWed
  split
  · exact h
  · rw [h x (by omega), h (6 + W x) (by omega), h (12 + x) (by omega)]
    exact ((((h.up fun _ => rfl).up fun _ => rfl).up fun _ => rfl).up fun q => absurd q (by decide))
theorem same23.bear {v u : Int → Int} (h : same23 v u) {W C : Int → Int} {x : Int} (hx : x < 6) (hw : C (W x) < 6) (wo : Int) : same23 (vBear W C x wo v) (vBear W C x wo u) := by
  unfold vBear vBoys
  rw [h (C (W x)) (by omega), h (6 + C (W x)) (by omega), h (12 + x) (by omega), h 19 (by decide)]
  exact (((h.up fun _ => rfl).up fun _ => rfl).up fun q => absurd q (by decide))
theorem same23.die {v u : Int → Int} (h : same23 v u) {x : Int} (hx : x < 6) (wo : Int) : same23 (vDie x wo v) (vDie x wo u) := by
  unfold vDie
  rw [h x (by omega), h (6 + x) (by omega), h (12 + x) (by omega)]
  exact ((((h.up fun _ => rfl).up fun _ => rfl).up fun _ => rfl).up fun q => absurd q (by decide))
theorem same23.itv {n : Int} {f : Int → (Int → Int) → (Int → Int)} (hf : ∀ x v u, 0 ≤ x → x < n → same23 v u → same23 (f x v) (f x u)) : ∀ (k : Nat) (i : Int) (v u : Int → Int), 0 ≤ i → i + k ≤ n → same23 v u → same23 (itv f k i v) (itv f k i u)
  | 0, _, _, _, _, _, h => h
  | k + 1, i, v, u, h0, hi, h => same23.itv hf k (i + 1) _ _ (by omega) (by omega) (hf i v u h0 (by omega) h)
theorem same23.year {l la : Nat} {D : LD} {W H C : Int → Int} {n : Int} (n0 : 0 ≤ n) (n6 : n ≤ 6) (hW : ∀ x, 0 ≤ x → x < n → W x < n ∧ H x < n ∧ C (W x) < n) {v u : Int → Int} (h : same23 v u) : same23 (vYear l la D W H C n.toNat v) (vYear l la D W H C n.toNat u) := by
  have h1 := same23.itv (n := n) (f := stW l la D W H) (fun x v u x0 x1 h => by
    have := hW x x0 x1
    unfold stW
    rw [h.draw.fac W H (by omega) (by omega) (by omega)]
    exact h.draw.wed (by omega) (by omega) _ _) n.toNat 0 v u (by decide) (by omega) h
  have h2 := same23.itv (n := n) (f := stY l la D W H C) (fun x v u x0 x1 h => by
    have := hW x x0 x1
    unfold stY
    rw [h.draw.fac W H (by omega) (by omega) (by omega)]
    exact h.draw.bear (by omega) (by omega) _) n.toNat 0 _ _ (by decide) (by omega) h1
  have h3 := same23.itv (n := n) (f := stD l la D W H) (fun x v u x0 x1 h => by
    have := hW x x0 x1
    unfold stD
    rw [h.draw.fac W H (by omega) (by omega) (by omega)]
    exact h.draw.die (by omega) _) n.toNat 0 _ _ (by decide) (by omega) h2
  unfold vYear
  exact h3.up fun _ => by rw [h3 18 (by decide)]
/-- all of a name -/
def vAll (H v : Int → Int) (x : Int) : Int := v x + v (6 + x) + v (12 + x) + v (12 + H x)
/-- behind how many years there is nobody -/
noncomputable def vDies (l la : Nat) (D : LD) (W H C : Int → Int) (n : Nat) (x : Int) : Nat → Int → (Int → Int) → Int
  | 0, i, v => if vAll H v x = 0 then i else -2
  | k + 1, i, v => if vAll H v x = 0 then i else vDies l la D W H C n x k (i + 1) (if v 18 < 9999 then vYear l la D W H C n v else v)
theorem vDies_stay {l la : Nat} {D : LD} {W H C : Int → Int} {n : Nat} {x : Int} {v : Int → Int} (h : vAll H v x ≠ 0) (h18 : ¬ v 18 < 9999) : ∀ (k : Nat) (i : Int), vDies l la D W H C n x k i v = -2
  | 0, _ => if_neg h
  | k + 1, i => by unfold vDies; rw [if_neg h, if_neg h18]; exact vDies_stay h h18 k (i + 1)
theorem vAll_nn {n : Int} {v H : Int → Int} (hb : VB n v) {x : Int} (h0 : 0 ≤ x) (h1 : x < 6) (h2 : 0 ≤ H x) (h3 : H x < 6) : 0 ≤ vAll H v x ∧ vAll H v x ≤ 39996 := by
  have b1 := hb.1 x h0 (by omega); have b2 := hb.1 (6 + x) (by omega) (by omega); have b3 := hb.1 (12 + x) (by omega) (by omega); have b4 := hb.1 (12 + H x) (by omega) (by omega)
  unfold vAll; omega
theorem diesN {l r : Nat} {n : Int} {D : LD} {W H C : Int → Int} (hl : isL l) {d : Nat} {x m : Int} (hm : m ≤ 100) (x0 : 0 ≤ x) (x1 : x < n) (n0 : 0 ≤ n) : ∀ (k : Nat) (i : Int) (v u : Int → Int) (σ : Sg), VS 92 l r n D W H C v σ → same23 v u → σ.2.2 4 1 = r → σ.2.2 4 5 = l → 0 ≤ i → i + k = m → ∃ σ', f_N_diesOut_54 (d + 9) (zI x) (zI m) (bz (decide (vAll H v x = 0))) (zI i) σ = rI (zI (vDies l 96 D W H C n.toNat x k i u)) σ' ∧ Fr (SVL 92 l) σ σ'
  | 0, i, v, u, σ, h, hs, p1, p2, h0, hi => by
    have hbd := h.2.2.1.bd x0 x1
    have n6 : n ≤ 6 := h.2.2.1.2.2.1
    rw [h.2.2.2.2.1] at hbd
    have hall : vAll H v x = vAll H u x := by unfold vAll; rw [hs x (by omega), hs (6 + x) (by omega), hs (12 + x) (by omega), hs (12 + H x) (by omega)]
    have : i = m := by omega
    subst this
    refine ⟨σ, ?_, Fr.rf _ _⟩
    rw [f_N_diesOut_54_eq, if_neg Int32.lt_irrefl, hall]
    unfold vDies
    by_cases q : vAll H u x = 0
    · rw [decide_eq_true q, bz_tt, if_neg (by decide), if_pos q]
    · rw [decide_eq_false q, bz_ff, if_pos (by decide), if_neg q]; rfl
  | k + 1, i, v, u, σ, h, hs, p1, p2, h0, hi => by
    have hbd := h.2.2.1.bd x0 x1
    have hbW : ∀ y, 0 ≤ y → y < n → W y < n ∧ H y < n ∧ C (W y) < n := fun y y0 y1 => by
      have bd := h.2.2.1.bd y0 y1
      have bd' := h.2.2.1.bd bd.1 bd.2.1
      rw [h.2.2.2.1, h.2.2.2.2.1] at bd
      rw [h.2.2.2.1, h.2.2.2.2.2.1] at bd'
      exact ⟨bd.2.1, bd.2.2.2.2.2, bd'.2.2.2.1⟩
    have n6 : n ≤ 6 := h.2.2.1.2.2.1
    rw [h.2.2.2.2.1] at hbd
    have hall : vAll H v x = vAll H u x := by unfold vAll; rw [hs x (by omega), hs (6 + x) (by omega), hs (12 + x) (by omega), hs (12 + H x) (by omega)]
    rw [f_N_diesOut_54_eq, if_pos (by rw [zI_le (by omega) (by omega)]; omega), hall]
    unfold vDies
    by_cases q : vAll H u x = 0
    · refine ⟨σ, ?_, Fr.rf _ _⟩
      rw [decide_eq_true q, bz_tt, if_neg (by decide), if_neg (by decide), if_pos q]
    · rw [decide_eq_false q, bz_ff, if_pos (by decide), if_neg q, p1, p2]
      obtain ⟨σ1, e1, S1, F1⟩ := goBy_sp (a := 92) (Or.inr rfl) hl h.1.1 h.1.2.1 h.1.2.2.1 h.2.1 h.2.2.1 h.2.2.2.2.2.2.1 n0 (d := d) (m := 1) (by decide) (by decide)
      rw [h.2.2.2.1, h.2.2.2.2.1, h.2.2.2.2.2.1, h.2.2.2.2.2.2.2] at S1
      have p1' : σ1.2.2 4 1 = r := by rw [F1.1]; exact p1
      have p2' : σ1.2.2 4 5 = l := by rw [F1.1]; exact p2
      have e0 : f_Village_goBy (d + 9) 92 r l 1 σ = rV σ1 := by rw [show (1 : Int32) = zI 1 from zI_lit 1]; exact e1
      have ea := allOf_sp (a := 92) rfl rfl rfl rfl S1.1.1 S1.2.2.1 (d := d + 8) x0 x1
      have i1 : zI i + 1 = zI (i + 1) := by rw [zI_lit, zI_add]
      rw [e0, cV_rV, p1', ea, cI_rI, S1.2.2.2.2.1, i1]
      have hz : same23 (upI (upI (upI v 20 0) 21 0) 22 0) u := fun j hj => by rw [upI_ne _ _ (by omega), upI_ne _ _ (by omega), upI_ne _ _ (by omega)]; exact hs j hj
      have hs' : same23 (vGo l (92 + 4) D W H C n.toNat (Int.toNat 1) (upI (upI (upI v 20 0) 21 0) 22 0)) (if u 18 < 9999 then vYear l 96 D W H C n.toNat u else u) := by
        show same23 (vGo l 96 D W H C n.toNat 1 _) _
        rw [vGo_1, hz 18 (by decide)]
        split
        · exact hz.year n0 n6 hbW
        · exact hz
      generalize vGo l (92 + 4) D W H C n.toNat (Int.toNat 1) (upI (upI (upI v 20 0) 21 0) 22 0) = v1 at S1 hs'
      have nn := vAll_nn (H := H) S1.2.1 x0 (by omega) hbd.2.2.2.2.1 (by omega)
      obtain ⟨σ2, e2, F2⟩ := diesN hl (d := d) hm x0 x1 n0 k (i + 1) v1 _ σ1 S1 hs' p1' p2' (by omega) (by omega)
      refine ⟨σ2, ?_, F1.tr F2⟩
      rw [← e2]
      have ex : (zI (v1 x + v1 (6 + x) + v1 (12 + x) + v1 (12 + H x)) = 0) = (vAll H v1 x = 0) := by rw [zI_0]; exact zI_eq (by unfold vAll at nn; omega) (by decide)
      by_cases q1 : vAll H v1 x = 0
      · rw [if_pos (ex.mpr q1), decide_eq_true q1]; rfl
      · rw [if_neg (fun z => q1 (ex.mp z)), decide_eq_false q1]; rfl
theorem diesM {l : Nat} {n : Int} {D : LD} {W H C : Int → Int} (hl : isL l) {d : Nat} {x m : Int} (hm : m ≤ 100) (x0 : 0 ≤ x) (x1 : x < n) : ∀ (k : Nat) (i : Int) (v : Int → Int) (y : Value) (σ : Sg), MS l n D W H C v σ → 0 ≤ i → i + k = m → ∃ σ' σ'', f_M_diesOut_33 (d + 5) (zI x) (zI m) (zI i) y σ = rI (zI (vDies l 96 D W H C n.toNat x k i v)) σ'' ∧ Fr SM σ σ' ∧ f_M_copies (d + 5) 104 103 σ' = rV σ''
  | k, i, v, y, σ, h, h0, hi => by
    obtain ⟨-, n0, n6, hr⟩ := id h.2.2.1
    obtain ⟨-, -, -, -, c1, c2, -⟩ := hr x x0 x1
    have nn := vAll_nn (H := H) h.2.1 x0 (by omega) c1 (by omega)
    have ea := allOfM_sp h.1 h.2.2.1 (d := d + 3) x0 x1
    have ea' : f_M_allOfName (d + 5) (zI x) σ = rI (zI (vAll H v x)) σ := ea
    obtain ⟨σc, ec, -, -⟩ := copies_sp (a := 104) (b := 103) rfl rfl (by decide) (σ := σ) (d := d + 4)
    have ex : (zI (vAll H v x) = 0) = (vAll H v x = 0) := by rw [zI_0]; exact zI_eq (by omega) (by decide)
    have ep : ((0 : Int32) < zI (vAll H v x)) = (0 < vAll H v x) := by rw [zI_0]; exact zI_le (by decide) (by omega)
    rw [f_M_diesOut_33_eq, ea', cI_rI]
    by_cases q : vAll H v x = 0
    · refine ⟨σ, σc, ?_, Fr.rf _ _, ec⟩
      rw [if_neg (fun z => by have := ep.mp z; omega), ea', cI_rI, if_pos (ex.mpr q), ec, cV_rV, if_neg (by decide)]
      cases k <;> (unfold vDies; rw [if_pos q])
    · rw [if_pos (ep.mpr (by omega))]
      have tail : ∀ X : Rs, (∃ σ' σ'', X = rI (zI (vDies l 96 D W H C n.toNat x k i v)) σ'' ∧ Fr SM σ σ' ∧ f_M_copies (d + 5) 104 103 σ' = rV σ'') → ∃ σ' σ'', X = rI (zI (vDies l 96 D W H C n.toNat x k i v)) σ'' ∧ Fr SM σ σ' ∧ f_M_copies (d + 5) 104 103 σ' = rV σ'' := fun X h => h
      by_cases z : i < m
      · rw [if_pos (by rw [zI_le (by omega) (by omega)]; exact z)]
        obtain ⟨k', rfl⟩ : ∃ k', k = k' + 1 := ⟨k - 1, by omega⟩
        have e18 : σ.1 103 18 = zI (v 18) := h.1.1 18 (by decide) (by decide)
        have b18 := h.2.1.2.2
        have e2 : ix 18 = 18 := rfl
        have e3 : ∀ X : Rs, bnd 18 20 X = X := fun X => rfl
        have t18 : (zI (v 18) < 9999) = (v 18 < 9999) := by rw [show (9999 : Int32) = zI 9999 from zI_lit 9999]; exact zI_le (by omega) (by decide)
        rw [e3, e2, e18]
        by_cases z18 : v 18 < 9999
        · obtain ⟨σ1, e1, S1, F1⟩ := myear hl (la := 96) (Or.inr rfl) h z18 (d := d)
          obtain ⟨σ2, σ3, e4, F2, e5⟩ := diesM hl (d := d) hm x0 x1 k' (i + 1) _ y σ1 S1 (by omega) (by omega)
          refine ⟨σ2, σ3, ?_, F1.tr F2, e5⟩
          have i1 : zI i + 1 = zI (i + 1) := by rw [zI_lit, zI_add]
          rw [if_pos (t18.mpr z18), e1, cV_rV, i1, e4]
          show _ = rI (zI (if vAll H v x = 0 then i else vDies l 96 D W H C n.toNat x k' (i + 1) (if v 18 < 9999 then vYear l 96 D W H C n.toNat v else v))) σ3
          rw [if_neg q, if_pos z18]
        · refine ⟨σ, σc, ?_, Fr.rf _ _, ec⟩
          rw [if_neg (fun y => z18 (t18.mp y)), ea', cI_rI, if_neg (fun y => q (ex.mp y)), ec, cV_rV, if_pos (by decide), vDies_stay q z18]; rfl
      · have : k = 0 := by omega
        subst this
        refine ⟨σ, σc, ?_, Fr.rf _ _, ec⟩
        rw [if_neg (by rw [zI_le (by omega) (by omega)]; exact z), ea', cI_rI, if_neg (fun y => q (ex.mp y)), ec, cV_rV, if_pos (by decide)]
        unfold vDies; rw [if_neg q]; rfl
theorem c_diesOut {σ : Sg} {r p l : Nat} (h : Inv r p l σ) (x a : Int32) : Same (f_N_diesOut 100 x a) (f_M_diesOut 100 x a) σ := by
  obtain ⟨x, rfl, hx⟩ := zI_ex x
  obtain ⟨a, rfl, ha⟩ := zI_ex a
  obtain ⟨n1, n2, n3, n4⟩ := h.n
  have hl : isL l := h.1.2.2.1
  have hl' := hl.le
  have hlr : σ.2.2 4 5 = l := h.1.2.2.2.2.2.2.2.1
  have iN := isName_sp n1 n2 rfl n3 (d := 98) hx
  have iY := isYears_sp (σ := σ) (d := 98) ha
  have in1 : ∀ τ, f_M_in 99 (zI a) 1 100 τ = rI (bz (decide (1 ≤ a ∧ a ≤ 100))) τ := fun τ => by
    rw [show (1 : Int32) = zI 1 from zI_lit 1, show (100 : Int32) = zI 100 from zI_lit 100]; exact in_sp ha (by decide) (by decide)
  by_cases q : (0 ≤ x ∧ x < rd σ r 0) ∧ 1 ≤ a ∧ a ≤ 100
  · obtain ⟨σ1, c1, V1, V18, V19, F1⟩ := trial_sp (σ := σ) (d := 96)
    have hvb := h.2.2.2.2.2.2.1.1.vb
    have vm := h.2.2.2.2.2.2.1.2.vm
    have SUr : ∀ b k, DRule r b k = true → SU 92 b k = false := by have := h.1.1.le; intro b k; simp [DRule, SU]; omega
    have SUl : ∀ b k, DLaw l b k = true → SU 92 b k = false := by intro b k; simp [DLaw, SU]; omega
    obtain ⟨r1, rW1, rH1, rC1, -⟩ := h.2.2.1.1.fr F1 SUr
    have L1 := h.2.2.2.2.1.fr F1 SUl
    have D1 := ldAt_fr F1 SUl
    have hbd := h.2.2.1.1.bd q.1.1 q.1.2
    -- the class: with its own counts
    have S1 : VS 92 l r (rd σ r 0) (ldAt l σ) (rd σ (r + 1)) (rd σ (r + 2)) (rd σ (r + 3)) (fun k => if k < 20 then vOf σ 87 k else vOf σ1 92 k) σ1 := by
      refine ⟨⟨fun y y0 y6 => ?_, ?_, ?_, ?_, ?_, ?_⟩, ?_, r1, rW1, rH1, rC1, L1, D1⟩
      · show σ1.1 93 y.toNat = zI (if y < 20 then _ else _) ∧ σ1.1 94 y.toNat = zI (if 6 + y < 20 then _ else _) ∧ σ1.1 95 y.toNat = zI (if 12 + y < 20 then _ else _)
        rw [if_pos (by omega), if_pos (by omega), if_pos (by omega)]; exact V1 y y0 y6
      · show σ1.1 92 3 = zI (if (18 : Int) < 20 then vOf σ 87 18 else vOf σ1 92 18)
        rw [if_pos (by decide)]; exact V18
      · show σ1.1 92 4 = zI (if (19 : Int) < 20 then vOf σ 87 19 else vOf σ1 92 19)
        rw [if_pos (by decide)]; exact V19
      · show σ1.1 92 5 = zI (if (20 : Int) < 20 then vOf σ 87 20 else vOf σ1 92 20)
        rw [if_neg (by decide)]; exact (vOf_VC σ1 92).2.2.2.1
      · show σ1.1 92 6 = zI (if (21 : Int) < 20 then vOf σ 87 21 else vOf σ1 92 21)
        rw [if_neg (by decide)]; exact (vOf_VC σ1 92).2.2.2.2.1
      · show σ1.1 92 7 = zI (if (22 : Int) < 20 then vOf σ 87 22 else vOf σ1 92 22)
        rw [if_neg (by decide)]; exact (vOf_VC σ1 92).2.2.2.2.2
      · obtain ⟨b1, b2, b3, b4, b5, b6⟩ := hvb
        refine ⟨fun k k0 k1 => ?_, fun z z0 z1 z2 => ?_, ?_⟩
        · show 0 ≤ (if k < 20 then _ else _) ∧ (if k < 20 then _ else _) ≤ 9999
          rw [if_pos (by omega)]; exact b1 k k0 k1
        · show (if z < 20 then _ else _) = _ ∧ (if 6 + z < 20 then _ else _) = _ ∧ (if 12 + z < 20 then _ else _) = _
          rw [if_pos (by omega), if_pos (by omega), if_pos (by omega)]; exact b2 z z0 z1 z2
        · show 0 ≤ (if (18 : Int) < 20 then _ else _) ∧ (if (18 : Int) < 20 then _ else _) ≤ 9999 ∧ 0 ≤ (if (19 : Int) < 20 then _ else _) ∧ (if (19 : Int) < 20 then _ else _) ≤ 65535
          rw [if_pos (by decide), if_pos (by decide)]; exact ⟨b3, b4, b5, b6⟩
    have hs : same23 (fun k => if k < 20 then vOf σ 87 k else vOf σ1 92 k) (vOf σ 87) := fun k hk => if_pos hk
    have p1 : σ1.2.2 4 1 = r := by rw [F1.1]; exact n1
    have p2 : σ1.2.2 4 5 = l := by rw [F1.1]; exact hlr
    obtain ⟨σ2, e2, F2⟩ := diesN hl (d := 90) (x := x) (m := a) (by omega) q.1.1 q.1.2 n3.1 a.toNat 0 _ _ σ1 S1 hs p1 p2 (by decide) (by omega)
    have F02 := trial_all hl F1 F2
    have ea := allOf_sp (a := 92) rfl rfl rfl rfl V1 r1 (d := 98) q.1.1 q.1.2
    rw [rH1] at ea
    have nn := vAll_nn (H := rd σ (r + 2)) hvb q.1.1 (by omega) hbd.2.2.2.2.1 (by omega)
    have hal : vAll (rd σ (r + 2)) (fun k => if k < 20 then vOf σ 87 k else vOf σ1 92 k) x = vAll (rd σ (r + 2)) (vOf σ 87) x := by
      unfold vAll
      show (if x < 20 then _ else _) + (if 6 + x < 20 then _ else _) + (if 12 + x < 20 then _ else _) + (if 12 + rd σ (r + 2) x < 20 then _ else _) = _
      rw [if_pos (by omega), if_pos (by omega), if_pos (by omega), if_pos (by omega)]
    rw [hal] at e2
    have eN : f_N_diesOut 100 (zI x) (zI a) σ = rI (zI (vDies l 96 (ldAt l σ) (rd σ (r + 1)) (rd σ (r + 2)) (rd σ (r + 3)) (rd σ r 0).toNat x a.toNat 0 (vOf σ 87))) σ2 := by
      have ex : (zI (vOf σ 87 x + vOf σ 87 (6 + x) + vOf σ 87 (12 + x) + vOf σ 87 (12 + rd σ (r + 2) x)) = 0) = (vAll (rd σ (r + 2)) (vOf σ 87) x = 0) := by rw [zI_0]; exact zI_eq (by unfold vAll at nn; omega) (by decide)
      rw [f_N_diesOut_eq, iN, cI_rI, decide_eq_true q.1, bz_tt, if_neg (by decide), iY, cI_rI, decide_eq_true q.2, bz_tt, if_neg (by decide), c1, cV_rV, p1, ea, cI_rI, ← e2]
      by_cases z : vAll (rd σ (r + 2)) (vOf σ 87) x = 0
      · rw [if_pos (ex.mpr z), decide_eq_true z, bz_tt, zI_0, show (1 : Int32) = zI 1 from zI_lit 1]
      · rw [if_neg (fun y => z (ex.mp y)), decide_eq_false z, bz_ff, zI_0]
    -- the reference
    have m103 : ∀ k : Int, 0 ≤ k → k < 20 → σ2.1 103 k.toNat = zI (vOf σ 87 k) := fun k k0 k1 => (F02.2 _ _ (by simp [SVL, SV, SL]; omega)).trans (vm k k0 k1)
    have iM := isNameM_sp (σ := σ2) (n := rd σ r 0) (by rw [fr_rd F02 (by simp [SVL, SV, SL]; omega), n4]) n3 (d := 97) hx
    obtain ⟨σ3, c3, z3, F3⟩ := copies_sp (a := 103) (b := 104) rfl rfl (by decide) (σ := σ2) (d := 98)
    have m3 : ∀ k : Int, 0 ≤ k → k < 20 → σ3.1 103 k.toNat = zI (vOf σ 87 k) := fun k k0 k1 => (F3.2 _ _ rfl).trans (m103 k k0 k1)
    have mr3 := (h.2.2.1.mr.fr F02 (by simp [SVL, SV, SL]; omega) (fun k => by simp [SVL, SV, SL]; omega) (fun k => by simp [SVL, SV, SL]; omega)).fr F3 rfl (fun _ => rfl) fun _ => rfl
    have S104 : ∀ b k, DLaw l b k = true → (fun (c : Nat) (_ : Nat) => c == 104) b k = false := by intro b k; simp [DLaw]; omega
    have L3 := ((h.2.2.2.2.1.fr F02 (SVL_D (Or.inr rfl) hl)).fr F3 S104)
    have D3 := (ldAt_fr F3 S104).trans (ldAt_fr F02 (SVL_D (Or.inr rfl) hl))
    have vm3 : VM (fun k => if k < 20 then vOf σ 87 k else if k = 20 then rd σ3 102 79 else if k = 21 then rd σ3 102 80 else rd σ3 102 81) σ3 := by
      refine ⟨fun k k0 k1 => ?_, ?_, ?_, ?_⟩
      · show _ = zI (if k < 20 then _ else _)
        rw [if_pos k1]; exact m3 k k0 k1
      · show _ = zI (if (20 : Int) < 20 then _ else if (20 : Int) = 20 then _ else _)
        rw [if_neg (by decide), if_pos (by decide)]; exact rd_k _ _ _
      · show _ = zI (if (21 : Int) < 20 then _ else if (21 : Int) = 20 then _ else if (21 : Int) = 21 then _ else _)
        rw [if_neg (by decide), if_neg (by decide), if_pos (by decide)]; exact rd_k _ _ _
      · show _ = zI (if (22 : Int) < 20 then _ else if (22 : Int) = 20 then _ else if (22 : Int) = 21 then _ else _)
        rw [if_neg (by decide), if_neg (by decide), if_neg (by decide)]; exact rd_k _ _ _
    have vb3 : VB (rd σ r 0) (fun k => if k < 20 then vOf σ 87 k else if k = 20 then rd σ3 102 79 else if k = 21 then rd σ3 102 80 else rd σ3 102 81) := by
      obtain ⟨b1, b2, b3, b4, b5, b6⟩ := hvb
      refine ⟨fun k k0 k1 => ?_, fun z z0 z1 z2 => ?_, ?_⟩
      · show 0 ≤ (if k < 20 then _ else _) ∧ (if k < 20 then _ else _) ≤ 9999
        rw [if_pos (by omega)]; exact b1 k k0 k1
      · show (if z < 20 then _ else _) = _ ∧ (if 6 + z < 20 then _ else _) = _ ∧ (if 12 + z < 20 then _ else _) = _
        rw [if_pos (by omega), if_pos (by omega), if_pos (by omega)]; exact b2 z z0 z1 z2
      · show 0 ≤ (if (18 : Int) < 20 then _ else _) ∧ (if (18 : Int) < 20 then _ else _) ≤ 9999 ∧ 0 ≤ (if (19 : Int) < 20 then _ else _) ∧ (if (19 : Int) < 20 then _ else _) ≤ 65535
        rw [if_pos (by decide), if_pos (by decide)]; exact ⟨b3, b4, b5, b6⟩
    obtain ⟨σ4, σ5, e4, F4, c5⟩ := diesM hl (d := 94) (x := x) (m := a) (by omega) q.1.1 q.1.2 a.toNat 0 _ .null σ3 ⟨vm3, vb3, mr3, L3, D3⟩ (by decide) (by omega)
    obtain ⟨σ5', c5', z5, F5⟩ := copies_sp (a := 104) (b := 103) rfl rfl (by decide) (σ := σ4) (d := 98)
    have e55 : σ5 = σ5' := by
      have ca : f_M_copies 99 104 103 σ4 = rV σ5 := c5
      have cb : f_M_copies 99 104 103 σ4 = rV σ5' := c5'
      rw [ca] at cb
      unfold rV at cb
      injection cb with cb; injection cb
    subst e55
    have hbW : ∀ y, 0 ≤ y → y < rd σ r 0 → rd σ (r + 1) y < rd σ r 0 ∧ rd σ (r + 2) y < rd σ r 0 ∧ rd σ (r + 3) (rd σ (r + 1) y) < rd σ r 0 := fun y y0 y1 => by
      have bd := h.2.2.1.1.bd y0 y1
      have bd' := h.2.2.1.1.bd bd.1 bd.2.1
      exact ⟨bd.2.1, bd.2.2.2.2.2, bd'.2.2.2.1⟩
    have hdd : ∀ (k : Nat) (i : Int) (v u : Int → Int), same23 v u → vDies l 96 (ldAt l σ) (rd σ (r + 1)) (rd σ (r + 2)) (rd σ (r + 3)) (rd σ r 0).toNat x k i v = vDies l 96 (ldAt l σ) (rd σ (r + 1)) (rd σ (r + 2)) (rd σ (r + 3)) (rd σ r 0).toNat x k i u := by
      intro k
      have ha : ∀ v u, same23 v u → vAll (rd σ (r + 2)) v x = vAll (rd σ (r + 2)) u x := fun v u hs => by
        unfold vAll; rw [hs x (by omega), hs (6 + x) (by omega), hs (12 + x) (by omega), hs (12 + rd σ (r + 2) x) (by omega)]
      induction k with
      | zero => intro i v u hs; unfold vDies; rw [ha v u hs]
      | succ k ih =>
        intro i v u hs
        unfold vDies
        rw [ha v u hs]
        split
        · rfl
        · refine ih _ _ _ ?_
          rw [hs 18 (by decide)]
          split
          · exact hs.year n3.1 n3.2 hbW
          · exact hs
    rw [hdd _ _ _ (vOf σ 87) (fun k hk => if_pos hk)] at e4
    have hI : Inv r p l σ5 := by
      refine h.trial ((FrU (FrU F02 F3 (U := STr l) fun a k e => by simp [STr] at e; exact ⟨e.1.1, by simpa using e.2⟩) (FrU F4 F5 (U := STr l) fun a k e => by simp [STr] at e; exact ⟨e.1.2, by have := e.1.2; simp [SM] at this; simp; omega⟩) fun a k e => ⟨e, e⟩)) fun k k0 k1 => ?_
      rw [z5 k.toNat (by omega), F4.2 104 _ rfl, z3 k.toNat (by omega)]; exact m103 k k0 k1
    refine ⟨_, σ2, σ5, r, p, l, eN, ?_, hI⟩
    rw [f_M_diesOut_eq, iM, cI_rI, decide_eq_true q.1, bz_tt, if_neg (by decide), in1, cI_rI, decide_eq_true q.2, bz_tt, if_neg (by decide), c3, cV_rV, zI_0]
    exact e4
  · have iM := isNameM_sp (σ := σ) n4 n3 (d := 97) hx
    refine ⟨-1, σ, σ, r, p, l, ?_, ?_, h⟩
    · rw [f_N_diesOut_eq, iN, cI_rI]
      by_cases z : 0 ≤ x ∧ x < rd σ r 0
      · rw [decide_eq_true z, bz_tt, if_neg (by decide), iY, cI_rI, decide_eq_false (fun y => q ⟨z, y⟩), bz_ff, if_pos (by decide)]
      · rw [decide_eq_false z, bz_ff, if_pos (by decide)]
    · rw [f_M_diesOut_eq, iM, cI_rI]
      by_cases z : 0 ≤ x ∧ x < rd σ r 0
      · rw [decide_eq_true z, bz_tt, if_neg (by decide), in1, cI_rI, decide_eq_false (fun y => q ⟨z, y⟩), bz_ff, if_pos (by decide)]
      · rw [decide_eq_false z, bz_ff, if_pos (by decide)]
