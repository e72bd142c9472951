/-! a rule that is tried -/
def ivF (w : Int → Int) : Nat → Int → Int
  | 0, _ => 0
  | k + 1, y => if w (k : Int) = y then (k : Int) else ivF w k y
theorem ivF_at {w : Int → Int} {y : Int} : ∀ k : Nat, (∃ x, 0 ≤ x ∧ x < (k : Int) ∧ w x = y) → 0 ≤ ivF w k y ∧ ivF w k y < k ∧ w (ivF w k y) = y
  | 0, ⟨x, x0, x1, _⟩ => by omega
  | k + 1, ⟨x, x0, x1, e⟩ => by
    unfold ivF
    by_cases z : w (k : Int) = y
    · rw [if_pos z]; exact ⟨by omega, by omega, z⟩
    · rw [if_neg z]
      have : x ≠ k := fun q => z (q ▸ e)
      have := ivF_at k ⟨x, x0, by omega, e⟩
      exact ⟨this.1, by omega, this.2.2⟩
theorem onN_surj {n : Int} {w : Int → Int} (h : onN n w) {y : Int} (y0 : 0 ≤ y) (y1 : y < n) : ∃ x, 0 ≤ x ∧ x < n ∧ w x = y := by
  obtain ⟨L, l1, -, l2, -⟩ := circ_ex h y0 y1
  have b := itF_lt h (L - 1) y y0 y1
  refine ⟨itF w (L - 1) y, b.1, b.2, ?_⟩
  have : itF w (L - 1 + 1) y = y := by rw [show L - 1 + 1 = L by omega]; exact l2
  exact this
theorem ivF_ok {n : Int} {w : Int → Int} (h : onN n w) {y : Int} (y0 : 0 ≤ y) (y1 : y < n) : 0 ≤ ivF w n.toNat y ∧ ivF w n.toNat y < n ∧ w (ivF w n.toNat y) = y ∧ ivF w n.toNat (w y) = y := by
  obtain ⟨x, x0, x1, e⟩ := onN_surj h y0 y1
  have a := ivF_at n.toNat ⟨x, x0, by omega, e⟩
  have b := ivF_at (w := w) (y := w y) n.toNat ⟨y, y0, by omega, rfl⟩
  exact ⟨a.1, by omega, a.2.2, h.2 _ _ b.1 (by omega) y0 y1 b.2.2⟩
theorem NmOk.iv {n : Int} {w c : Int → Int} (n6 : n ≤ 6) (hw : onN n w) (hc : onN n c) : NmOk n w (ivF w n.toNat) c (ivF c n.toNat) := ⟨n6, fun x x0 x1 => by
  have a := ivF_ok hw x0 x1; have b := ivF_ok hc x0 x1
  exact ⟨⟨(hw.1 x x0 x1).1, (hw.1 x x0 x1).2, a.1, a.2.1, a.2.2.2, a.2.2.1⟩, (hc.1 x x0 x1).1, (hc.1 x x0 x1).2, b.1, b.2.1, b.2.2.2, b.2.2.1⟩⟩
theorem NmOk.congr {n : Int} {W H C M W' H' C' M' : Int → Int} (h : NmOk n W H C M) (eW : EqN n W' W) (eH : EqN n H' H) (eC : EqN n C' C) (eM : EqN n M' M) : NmOk n W' H' C' M' := ⟨h.1, fun x x0 x1 => by
  obtain ⟨⟨a1, a2, a3, a4, a5, a6⟩, b1, b2, b3, b4, b5, b6⟩ := h.2 x x0 x1
  rw [eW x x0 x1, eH x x0 x1, eC x x0 x1, eM x x0 x1, eH _ a1 a2, eW _ a3 a4, eM _ b1 b2, eC _ b3 b4]
  exact ⟨⟨a1, a2, a3, a4, a5, a6⟩, b1, b2, b3, b4, b5, b6⟩⟩
theorem goF_congr {n : Int} {W H C M W' H' C' M' : Int → Int} (h : NmOk n W H C M) (eW : EqN n W' W) (eH : EqN n H' H) (eC : EqN n C' C) (eM : EqN n M' M) (k s : Int) {x : Int} (x0 : 0 ≤ x) (x1 : x < n) : goF W' H' C' M' k s x = goF W H C M k s x := by
  obtain ⟨⟨a1, a2, a3, a4, a5, a6⟩, b1, b2, b3, b4, b5, b6⟩ := h.2 x x0 x1
  unfold goF
  rw [eW x x0 x1, eH x x0 x1, eC x x0 x1, eM x x0 x1, eH _ b3 b4, eC _ a1 a2]
theorem ldF_congr {n : Int} {G G' : Int → Int → Int → Int} {st : Int → Int} (hG : ∀ k s, onN n (G k s)) (e : ∀ k s x, 0 ≤ x → x < n → G' k s x = G k s x) : ∀ (k : Nat) (i s x : Int), 0 ≤ x → x < n → ldF G' st k i s x = ldF G st k i s x
  | 0, _, _, _, _, _ => rfl
  | k + 1, i, s, x, x0, x1 => by
    rw [ldF, ldF, e _ _ x x0 x1]
    have b := (hG (st i) s).1 x x0 x1
    exact ldF_congr hG e k _ _ _ b.1 b.2
def fP (n : Int) (Wd : WS) (w c : Int → Int) : Int → Int := ldF (goF w (ivF w n.toNat) c (ivF c n.toNat)) Wd.st Wd.size.toNat 0 0
def AL (n : Int) (Wd : WS) (w c : Int → Int) : Prop := ∀ x, 0 ≤ x → x < n → Wd.st (Wd.size - 1) % 2 ≠ 0 ∧ fP n Wd w c x = w x
def EvO (n : Int) (w c : Int → Int) : Prop := ∃ K G, Cls n w c K ∧ Lab n (edF w c n) G ∧ ((bst n w c K).2 : Int) = n ∧ cnt (fun x => decide (G x = x)) n.toNat = 1
def GD (n : Int) (Wd : WS) (ev : Bool) (w c : Int → Int) : Prop := (∀ x, 0 ≤ x → x < n → w x ≠ x) ∧ AL n Wd w c ∧ (ev = true → EvO n w c)
theorem Lab.uniq {n : Int} {E : Int → Int → Prop} {G G' : Int → Int} (h : Lab n E G) (h' : Lab n E G') {a : Int} (a0 : 0 ≤ a) (a1 : a < n) : G a = G' a := by
  have x := h.2 a a0 a1; have y := h'.2 a a0 a1
  have p := h.le a0 a1 y.1 (by omega) y.2.2.1
  have q := h'.le a0 a1 x.1 (by omega) x.2.2.1
  omega
theorem Lab.cnt {n : Int} {E : Int → Int → Prop} {G G' : Int → Int} (h : Lab n E G) (h' : Lab n E G') : Jvm.Pilot.CNamedToWedLaw_law_r6371_68ea79.cnt (fun x => decide (G x = x)) n.toNat = Jvm.Pilot.CNamedToWedLaw_law_r6371_68ea79.cnt (fun x => decide (G' x = x)) n.toNat := cnt_congr fun x x0 x1 => by rw [h.uniq h' x0 (by omega)]
theorem lab_ex {n : Int} {W C : Int → Int} (n0 : 0 ≤ n) (hW : onN n W) (hC : onN n C) : ∃ G, Lab n (edF W C n) G := by
  have main : ∀ k : Nat, (k : Int) ≤ n → ∃ G, Lab n (edF W C (k : Int)) G := by
    intro k
    induction k with
    | zero =>
      intro _
      exact ⟨fun i => i, (Lab.id n).congr fun u v => ⟨fun q => q.elim, fun q => by have := q.1; have := q.2.1; omega⟩⟩
    | succ k ih =>
      intro hk
      obtain ⟨G, hL⟩ := ih (by omega)
      have w := hW.1 (k : Int) (by omega) (by omega)
      have c := hC.1 (k : Int) (by omega) (by omega)
      refine ⟨_, ((hL.join (x := (k : Int)) (by omega) (by omega) w.1 w.2).join (x := (k : Int)) (by omega) (by omega) c.1 c.2).congr fun u v => ?_⟩
      unfold edF
      constructor
      · rintro ((⟨q1, q2, q3⟩ | ⟨rfl, rfl⟩) | ⟨rfl, rfl⟩)
        · exact ⟨q1, by omega, q3⟩
        · exact ⟨by omega, by omega, Or.inl rfl⟩
        · exact ⟨by omega, by omega, Or.inr rfl⟩
      · rintro ⟨q1, q2, q3⟩
        by_cases z : u = k
        · subst z
          rcases q3 with q3 | q3
          · exact Or.inl (Or.inr ⟨rfl, q3⟩)
          · exact Or.inr ⟨rfl, q3⟩
        · exact Or.inl (Or.inl ⟨q1, by omega, q3⟩)
  obtain ⟨G, h⟩ := main n.toNat (by omega)
  rw [show ((n.toNat : Nat) : Int) = n by omega] at h
  exact ⟨G, h⟩
theorem edF_congr {n : Int} {W C W' C' : Int → Int} (eW : EqN n W' W) (eC : EqN n C' C) (u v : Int) : edF W' C' n u v ↔ edF W C n u v := by
  unfold edF
  constructor
  · rintro ⟨a, b, c⟩; rw [eW u a b, eC u a b] at c; exact ⟨a, b, c⟩
  · rintro ⟨a, b, c⟩; refine ⟨a, b, ?_⟩; rw [eW u a b, eC u a b]; exact c
def S7z (a k : Nat) : Bool := S74 a k || SCz a k
theorem evenN_sp {σ : Sg} {r : Nat} {n : Int} (hr : RuleAt σ r n) (n2 : 2 ≤ n) {w c : Int → Int} (eW : EqN n (rd σ (r + 1)) w) (eC : EqN n (rd σ (r + 3)) c) {d : Nat} : ∃ σ' b, f_N_isEvenAndOneSide (d + 4) r σ = rI (bz b) σ' ∧ Fr S7z σ σ' ∧ (b = true ↔ EvO n w c) := by
  have n6 := hr.2.2.1
  have hS : ∀ k, S7z r k = false ∧ S7z (r + 1) k = false ∧ S7z (r + 2) k = false ∧ S7z (r + 3) k = false ∧ S7z (r + 4) k = false := by
    intro k; rcases hr.1 with rfl | rfl <;> exact ⟨rfl, rfl, rfl, rfl, rfl⟩
  obtain ⟨σ1, G, a1, a2, a3⟩ := sides_sp hr (by omega) (d := d + 1)
  have a3 := a3.congr (edF_congr eW eC)
  have F1 : Fr S7z σ σ1 := a2.mono fun a k e => by simp only [S7z, Bool.or_eq_false_iff] at e; exact e.1
  have er : σ1.1 r 0 = zI n := by rw [F1.2 _ _ (hS 0).1, rd_k]; exact congrArg zI hr.2.1
  have cb := cnt_nn (fun x => decide (G x = x)) n.toNat
  by_cases z : cnt (fun x => decide (G x = x)) n.toNat = 1
  · obtain ⟨b1, b2, b3, b4, b5⟩ := hr.fr5 F1 hS
    obtain ⟨σ2, k, s1, s2, s3, s4⟩ := size_spg (d := d) b1 n2 (most := n + 1) (by omega) (by omega) (W := w) (C := c) (by rw [b2]; exact eW) (by rw [b4]; exact eC)
    have F2 : Fr S7z σ σ2 := F1.tr (s2.mono fun a k e => by simp only [S7z, Bool.or_eq_false_iff] at e; exact e.2)
    have er2 : σ2.1 r 0 = zI n := by rw [F2.2 _ _ (hS 0).1, rd_k]; exact congrArg zI hr.2.1
    have hw : onN n w := ⟨fun x h0 h1 => by rw [← eW x h0 h1]; have := hr.2.2.2 x h0 h1; omega, fun x y x0 x1 y0 y1 e => by
      rw [← eW x x0 x1, ← eW y y0 y1] at e
      exact hr.2.2.onW.1.2 x y x0 x1 y0 y1 e⟩
    have hc : onN n c := ⟨fun x h0 h1 => by rw [← eC x h0 h1]; have := hr.2.2.2 x h0 h1; omega, fun x y x0 x1 y0 y1 e => by
      rw [← eC x x0 x1, ← eC y y0 y1] at e
      exact hr.2.2.onW.2.2 x y x0 x1 y0 y1 e⟩
    have sle := (bst_ok hw hc k s3).le n2 n6
    have fb := fac_bd n.toNat (by omega)
    refine ⟨σ2, decide (((bst n w c k).2 : Int) = n), ?_, F2, ?_⟩
    · rw [f_N_isEvenAndOneSide_eq, a1, cI_rI, show (1 : Int32) = zI 1 from zI_lit 1, if_pos (congrArg zI z), gfI_of hr.1.s0, er, zI_add, s1, cI_rI, gfI_of hr.1.s0, er2]
      by_cases y : ((bst n w c k).2 : Int) = n
      · rw [if_pos (congrArg zI y), rZ_z1, decide_eq_true y]; rfl
      · rw [if_neg (by rw [zI_eq (by omega) (by omega)]; exact y), decide_eq_false y, zI_0, rZ_z0]; rfl
    · rw [decide_eq_true_eq]
      constructor
      · intro e
        have cl : Cls n w c k := ⟨s3, by
          rcases s4 with s4 | s4
          · exact s4
          · omega⟩
        exact ⟨k, G, cl, a3, e, z⟩
      · rintro ⟨K, G', cl, hL, e, -⟩
        have un := cl.uniq s3
        rcases s4 with s4 | s4
        · rw [un.2 s4]; exact e
        · obtain ⟨b, rfl⟩ : ∃ b, K = k + b := ⟨K - k, by have := un.1; omega⟩
          have := (bst_le (n := n) (W := w) (C := c) (k := k) b).1
          omega
  · refine ⟨σ1, false, ?_, F1, fun q => (by cases q), ?_⟩
    · rw [f_N_isEvenAndOneSide_eq, a1, cI_rI, show (1 : Int32) = zI 1 from zI_lit 1, if_neg (by rw [zI_eq (by omega) (by decide)]; exact z), zI_0, rZ_z0]; rfl
    · rintro ⟨K, G', cl, hL, e, e'⟩
      exact absurd ((a3.cnt hL).trans e') z
theorem evenM_sp {τ : Sg} {n : Int} (n2 : 2 ≤ n) (n6 : n ≤ 6) (e0 : τ.1 102 5 = zI n) {w c : Int → Int} (hw : onN n w) (hc : onN n c) (eW : ∀ x, 0 ≤ x → x < n → τ.1 106 x.toNat = zI (w x)) (eC : ∀ x, 0 ≤ x → x < n → τ.1 107 x.toNat = zI (c x)) {d : Nat} : ∃ τ' b, f_M_isEvenAndOne (d + 4) τ = rI (bz b) τ' ∧ Fr SWa τ τ' ∧ (b = true ↔ EvO n w c) := by
  obtain ⟨τ', K, a1, a2, a3, a4, a5⟩ := laysWays_sp (d := d) n2 n6 e0 hw hc eW eC
  obtain ⟨G, hL⟩ := lab_ex (by omega) hw hc
  have cl : Cls n w c K := ⟨a4, a5⟩
  have e0' : τ'.1 102 5 = zI n := (a2.2 _ _ rfl).trans e0
  have sle := (bst_ok hw hc K a4).le n2 n6
  have fb := fac_bd n.toNat (by omega)
  have sd := sidesM_sp (d := d) n2 n6 e0' hw hc cl hL a3
  obtain ⟨b, d1, d2⟩ := isEvenM_sp (d := d) n2 n6 e0' hw hc cl hL a3
  have cb := cnt_nn (fun x => decide (G x = x)) n.toNat
  have un : EvO n w c ↔ ((bst n w c K).2 : Int) = n ∧ cnt (fun x => decide (G x = x)) n.toNat = 1 := by
    constructor
    · rintro ⟨K', G', c', h', e, e'⟩
      have := (cl.uniq c'.1).2 c'.2
      subst this
      exact ⟨e, (hL.cnt h').trans e'⟩
    · rintro ⟨e, e'⟩; exact ⟨K, G, cl, hL, e, e'⟩
  rw [un]
  by_cases z : ((bst n w c K).2 : Int) = n
  · by_cases y : cnt (fun x => decide (G x = x)) n.toNat = 1
    · have bt : b = true := d2.mpr ((even_iff (by omega) hL (orb_le hw hc cl hL)).mpr (by rw [y, z]; omega))
      refine ⟨τ', true, ?_, a2, fun _ => ⟨z, y⟩, fun _ => rfl⟩
      rw [f_M_isEvenAndOne_eq, a1, cV_rV, a3.1, e0', if_pos (congrArg zI z), sd, cI_rI, show (1 : Int32) = zI 1 from zI_lit 1, if_pos (congrArg zI y), d1, cI_rI, bt, bz_tt, if_neg (by decide), rZ_z1]
    · refine ⟨τ', false, ?_, a2, fun q => (by cases q), fun q => absurd q.2 y⟩
      rw [f_M_isEvenAndOne_eq, a1, cV_rV, a3.1, e0', if_pos (congrArg zI z), sd, cI_rI, show (1 : Int32) = zI 1 from zI_lit 1, if_neg (by rw [zI_eq (by omega) (by decide)]; exact y), zI_0, rZ_z0]; rfl
  · refine ⟨τ', false, ?_, a2, fun q => (by cases q), fun q => absurd q.1 z⟩
    rw [f_M_isEvenAndOne_eq, a1, cV_rV, a3.1, e0', if_neg (by rw [zI_eq (by omega) (by omega)]; exact z), zI_0, rZ_z0]; rfl
