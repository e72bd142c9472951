theorem CC.fa1 {n : Int} {q : Nat → Nd} {pr : Nat → Nat} {kd fa : Nat → Int} {m : Nat} {τ : Sg} (h : CC n q pr kd fa m τ) {j : Nat} (j1 : 1 ≤ j) (jm : j < m) : τ.1 135 j = zI (pr j : Int) ∧ τ.1 136 j = zI (kd j) ∧ τ.1 137 j = zI (fa j) ∧ fa j = fa (pr j) + 1 := ⟨(h.2.2.1 j j1 jm).1, (h.2.2.1 j j1 jm).2.1, (h.2.1 j jm).2.2.2, (h.2.2.1 j j1 jm).2.2⟩
theorem cous63_sp {σ : Sg} {d : Nat} {n : Int} {W H C M : Int → Int} (hm : MR4 σ n W H C M) (hN : NmOk n W H C M) (e0 : σ.1 102 5 = zI n) (n2 : 2 ≤ n) {s : Nd} {wv : Int32} {K : Nat} : ∀ (b : Nat) (c : Int) (q : Nat → Nd) (pr : Nat → Nat) (kd fa : Nat → Int) (m : Nat) (τ : Sg), c + b = 8 → 0 ≤ c → K < m → BJ alB (nxC n (goF W H C M)) s q pr kd m K c → CC n q pr kd fa m τ → Fr SCo σ τ → ∃ q' pr' kd' fa' m' τ', f_M_laysCousins_63 (d + 4) wv (zI (K : Int)) (zI c) τ = f_M_laysCousins_31 (d + 4) wv (zI ((K : Int) + 1)) (.int (zI 8)) τ' ∧ BJ alB (nxC n (goF W H C M)) s q' pr' kd' m' (K + 1) 0 ∧ m ≤ m' ∧ (∀ j, j < m → q' j = q j) ∧ CC n q' pr' kd' fa' m' τ' ∧ Fr SCo σ τ' := by
  have n6 := hN.1
  have fb := fac_bd n.toNat (by omega)
  have hG : ∀ k s, onN n (goF W H C M k s) := fun k s => ⟨fun x x0 x1 => goF_lt hN x0 x1, fun x y x0 x1 y0 y1 e => goF_inj hN x0 x1 y0 y1 e⟩
  intro b
  induction b with
  | zero =>
    intro c q pr kd fa m τ hc c0 Km hB hQ F
    have : c = 8 := by omega
    subst this
    refine ⟨q, pr, kd, fa, m, τ, ?_, hB.nextK, Nat.le_refl _, fun _ _ => rfl, hQ, F⟩
    rw [f_M_laysCousins_63_eq, show (8 : Int32) = zI 8 from zI_lit 8, if_neg Int32.lt_irrefl, show (1 : Int32) = zI 1 from zI_lit 1, zI_add]
  | succ b ih =>
    intro c q pr kd fa m τ hc c0 Km hB hQ F
    have c8 : c < 8 := by omega
    have mle := nodes_le n2 n6 (fun j jm => (hQ.2.1 j jm).1) hB.2.1
    obtain ⟨o1, o2, o3, -⟩ := hQ.2.1 K Km
    have k2 : (zI c = zI 2) = (c = 2) := zI_eq (by omega) (by decide)
    have k3 : (zI c = zI 3) = (c = 3) := zI_eq (by omega) (by decide)
    by_cases sp : c = 2 ∨ c = 3
    · obtain ⟨q', pr', kd', fa', m', τ', a1, a2⟩ := ih (c + 1) q pr kd fa m τ (by omega) (by omega) Km (hB.skip fun _ a => by
        unfold alB at a; have := of_decide_eq_true a; omega) hQ F
      refine ⟨q', pr', kd', fa', m', τ', ?_, a2⟩
      rw [f_M_laysCousins_63_eq, show (8 : Int32) = zI 8 from zI_lit 8, if_pos (by rw [zI_le (by omega) (by decide)]; exact c8), show (2 : Int32) = zI 2 from zI_lit 2, show (3 : Int32) = zI 3 from zI_lit 3, show (1 : Int32) = zI 1 from zI_lit 1, zI_add]
      rcases sp with z | z
      · rw [if_pos (by rw [k2]; exact z)]; exact a1
      · rw [if_neg (by rw [k2]; omega), if_pos (by rw [k3]; exact z)]; exact a1
    · have al : alB c = true := decide_eq_true (by omega)
      obtain ⟨t, w1, w2⟩ := wayBy_sp (hm.fr F rfl (fun _ => rfl) (fun _ => rfl)) hN ((F.2 _ _ rfl).trans e0) (by omega) (d := d + 1) o2 o1.1 c0 c8 o1.2.1
      have nv := nxC_ok hG (k := c) o1
      have ct : Cd n (nxC n (goF W H C M) c (q K)).1 t := w2.congr fun x x0 x1 => (cut_at (n := n) (g := fun x => goF W H C M c (q K).2 ((q K).1 x)) x0 x1).symm
      have ad := addsCousin_sp (d := d + 3) n2 n6 hQ hB.2.1 (fun j j1 jm => (hB.2.2.1 j j1 jm).1) Km (c := c) nv ct
      have head : f_M_laysCousins_63 (d + 4) wv (zI (K : Int)) (zI c) τ = cV (f_M_addsCousin (d + 4) t (zI (nxC n (goF W H C M) c (q K)).2) (zI (K : Int)) (zI c) τ) fun σ5 => f_M_laysCousins_63 (d + 4) wv (zI (K : Int)) (zI (c + 1)) σ5 := by
        rw [f_M_laysCousins_63_eq, show (8 : Int32) = zI 8 from zI_lit 8, if_pos (by rw [zI_le (by omega) (by decide)]; exact c8), show (2 : Int32) = zI 2 from zI_lit 2, show (3 : Int32) = zI 3 from zI_lit 3, show (1 : Int32) = zI 1 from zI_lit 1, zI_add, if_neg (by rw [k2]; omega), if_neg (by rw [k3]; omega), bnd_zI (by omega) (by omega) (by omega), bnd_zI (by omega) (by omega) (by omega), ix_zI (by omega) (by omega), Int.toNat_natCast, o3, w1, cI_rI, sortBy_sp c0 c8, cI_rI]
        rfl
      rw [head]
      rcases ad with ⟨ex, a1⟩ | ⟨ne, τ1, a1, F1, Q1⟩
      · rw [a1, cV_rV]
        exact ih (c + 1) q pr kd fa m τ (by omega) (by omega) Km (hB.skip fun _ _ => ex) hQ F
      · obtain ⟨q', pr', kd', fa', m', τ', b1, b2, b3, b4, b5, b6⟩ := ih (c + 1) _ _ _ _ (m + 1) τ1 (by omega) (by omega) (by omega) (hB.app Km c0 c8 al ne) Q1 (F.tr F1)
        refine ⟨q', pr', kd', fa', m', τ', ?_, b2, by omega, fun j jm => (b4 j (by omega)).trans (if_neg (by omega)), b5, b6⟩
        rw [a1, cV_rV]; exact b1
theorem cous31_sp {σ : Sg} {d : Nat} {n : Int} {W H C M : Int → Int} (hm : MR4 σ n W H C M) (hN : NmOk n W H C M) (e0 : σ.1 102 5 = zI n) (n2 : 2 ≤ n) {wv : Int32} (hw : Cd n (cut n W) wv) : ∀ (b K : Nat) (q : Nat → Nd) (pr : Nat → Nat) (kd fa : Nat → Int) (m : Nat) (τ : Sg) (v : Value), K + b = 1440 → K ≤ m → BJ alB (nxC n (goF W H C M)) (cut n (fun x => x), 0) q pr kd m K 0 → (∀ k, k < K → q k ≠ (cut n W, 1)) → CC n q pr kd fa m τ → Fr SCo σ τ → ∃ (q' : Nat → Nd) (pr' : Nat → Nat) (kd' fa' : Nat → Int) (m' g : Nat) (τ' : Sg), f_M_laysCousins_31 (d + 4) wv (zI (K : Int)) v τ = rI (zI (g : Int)) τ' ∧ BJ alB (nxC n (goF W H C M)) (cut n (fun x => x), 0) q' pr' kd' m' g 0 ∧ g < m' ∧ q' g = (cut n W, 1) ∧ CC n q' pr' kd' fa' m' τ' ∧ Fr SCo σ τ' := by
  have n6 := hN.1
  have fb := fac_bd n.toNat (by omega)
  intro b
  induction b with
  | zero =>
    intro K q pr kd fa m τ v hK Km hB hn hQ F
    exfalso
    have mle := nodes_le n2 n6 (fun j jm => (hQ.2.1 j jm).1) hB.2.1
    have : K = m := by omega
    subst this
    have m1 := hB.1.1
    obtain ⟨j, jm, ej, -⟩ := hB.2.2.2.2 0 4 (by decide) (by decide) (by unfold lxl; omega) hB.1.1 (by decide)
    obtain ⟨i, im, ei, -⟩ := hB.2.2.2.2 j 1 (by decide) (by decide) (by unfold lxl; omega) jm (by decide)
    refine hn i im (ei.trans ?_)
    rw [ej, hB.1.2.1]
    refine Prod.ext (cut_eq.mpr fun x x0 x1 => ?_) rfl
    obtain ⟨⟨a1, a2, -⟩, -⟩ := hN.2 x x0 x1
    obtain ⟨-, -, -, -, -, b5, -⟩ := hN.2 _ a1 a2
    show goF W H C M 1 (4 % 2) (cut n (fun x => goF W H C M 4 0 (cut n (fun x => x) x)) x) = W x
    rw [cut_at x0 x1, cut_at x0 x1]
    exact b5
  | succ b ih =>
    intro K q pr kd fa m τ v hK Km hB hn hQ F
    have mle := nodes_le n2 n6 (fun j jm => (hQ.2.1 j jm).1) hB.2.1
    have Km' : K < m := by
      rcases Nat.lt_or_ge K m with z | z
      · exact z
      · exfalso
        have : K = m := by omega
        subst this
        have m1 := hB.1.1
        obtain ⟨j, jm, ej, -⟩ := hB.2.2.2.2 0 4 (by decide) (by decide) (by unfold lxl; omega) hB.1.1 (by decide)
        obtain ⟨i, im, ei, -⟩ := hB.2.2.2.2 j 1 (by decide) (by decide) (by unfold lxl; omega) jm (by decide)
        refine hn i im (ei.trans ?_)
        rw [ej, hB.1.2.1]
        refine Prod.ext (cut_eq.mpr fun x x0 x1 => ?_) rfl
        obtain ⟨⟨a1, a2, -⟩, -⟩ := hN.2 x x0 x1
        obtain ⟨-, -, -, -, -, b5, -⟩ := hN.2 _ a1 a2
        show goF W H C M 1 (4 % 2) (cut n (fun x => goF W H C M 4 0 (cut n (fun x => x) x)) x) = W x
        rw [cut_at x0 x1, cut_at x0 x1]
        exact b5
    obtain ⟨o1, o2, o3, -⟩ := hQ.2.1 K Km'
    have ee := Cd.eq n6 o2 hw o1.1 hN.onW.1.cut
    have bK : ∀ X : Rs, bnd (zI (K : Int)) 1440 X = X := fun X => bnd_zI (by omega) (by omega) (by omega)
    have iK : ix (zI (K : Int)) = K := by rw [ix_zI (by omega) (by omega), Int.toNat_natCast]
    by_cases z : q K = (cut n W, 1)
    · refine ⟨q, pr, kd, fa, m, K, τ, ?_, hB, Km', z, hQ, F⟩
      rw [f_M_laysCousins_31_eq, hQ.1, if_pos (by rw [zI_le (by omega) (by omega)]; omega), bK, bK, iK, if_pos (ee.mpr (by rw [z]; exact fun _ _ _ => rfl)), o3, z, show (1 : Int32) = zI 1 from zI_lit 1, if_pos rfl]
    · have go : f_M_laysCousins_31 (d + 4) wv (zI (K : Int)) v τ = f_M_laysCousins_63 (d + 4) wv (zI (K : Int)) (zI 0) τ := by
        rw [f_M_laysCousins_31_eq, hQ.1, if_pos (by rw [zI_le (by omega) (by omega)]; omega), bK, bK, iK, o3, show (1 : Int32) = zI 1 from zI_lit 1, zI_0]
        by_cases y : τ.1 133 K = wv
        · rw [if_pos y]
          have e1 : (q K).1 = cut n W := by
            have := cut_eq.mpr (ee.mp y)
            rw [o1.2.2, cut_cut] at this; exact this
          rw [if_neg]
          intro u
          have := o1.2.1
          rw [zI_eq (by omega) (by decide)] at u
          exact z (Prod.ext e1 u)
        · rw [if_neg y]
      obtain ⟨q', pr', kd', fa', m', τ', a1, a2, a3, a4, a5, a6⟩ := cous63_sp hm hN e0 n2 (d := d) (wv := wv) (K := K) 8 0 q pr kd fa m τ (by decide) (by decide) Km' hB hQ F
      obtain ⟨q2, pr2, kd2, fa2, m2, g, τ2, b1, b2⟩ := ih (K + 1) q' pr' kd' fa' m' τ' (.int (zI 8)) (by omega) (by omega) a2 (fun k hk => by
        rw [a4 k (by omega)]
        by_cases y : k = K
        · rw [y]; exact z
        · exact hn k (by omega)) a5 a6
      exact ⟨q2, pr2, kd2, fa2, m2, g, τ2, by rw [go, a1]; exact b1, b2⟩
theorem laysCousins_sp {σ : Sg} {d : Nat} {n : Int} {W H C M : Int → Int} (hm : MR4 σ n W H C M) (hN : NmOk n W H C M) (e0 : σ.1 102 5 = zI n) (n2 : 2 ≤ n) (eW : ∀ x, 0 ≤ x → x < n → σ.1 106 x.toNat = zI (W x)) : ∃ (q : Nat → Nd) (pr : Nat → Nat) (kd fa : Nat → Int) (m g : Nat) (τ' : Sg), f_M_laysCousins (d + 5) σ = rI (zI (g : Int)) τ' ∧ BJ alB (nxC n (goF W H C M)) (cut n (fun x => x), 0) q pr kd m g 0 ∧ g < m ∧ q g = (cut n W, 1) ∧ CC n q pr kd fa m τ' ∧ Fr SCo σ τ' := by
  have n6 := hN.1
  have idn : onN n (fun x => x) := ⟨fun x h0 h1 => ⟨h0, h1⟩, fun _ _ _ _ _ _ e => e⟩
  obtain ⟨s0, p1, p2⟩ := plainWay_sp (σ := σ) (d := d + 3) (by omega : 0 ≤ n) n6 e0
  obtain ⟨wv, c1, c2⟩ := changedBy_sp (σ := σ) (d := d + 2) (a := 106) rfl (by omega : 0 ≤ n) n6 e0 p2 idn hN.onW.1 eW
  obtain ⟨s1, p3, p4⟩ := plainWay_sp (σ := sI σ 102 53 (zI 0)) (d := d + 3) (by omega : 0 ≤ n) n6 ((sI_slot _ _ _ _ (by decide)).trans e0)
  have F1 : Fr SCo σ (sI (sI (sI (sI (sI (sI (sI σ 102 53 (zI 0)) 133 0 s1) 134 0 (zI 0)) 135 0 (zI (-1))) 136 0 (zI (-1))) 137 0 (zI 0)) 102 53 (zI 1)) := (((((((Fr.rf _ σ).sI _ rfl).sI _ rfl).sI _ rfl).sI _ rfl).sI _ rfl).sI _ rfl).sI _ rfl
  have add0 : f_M_addsCousin (d + 4) s1 (zI 0) (zI (-1)) (zI (-1)) (sI σ 102 53 (zI 0)) = rV (sI (sI (sI (sI (sI (sI (sI σ 102 53 (zI 0)) 133 0 s1) 134 0 (zI 0)) 135 0 (zI (-1))) 136 0 (zI (-1))) 137 0 (zI 0)) 102 53 (zI 1)) := by
    have g0 : (sI σ 102 53 (zI 0)).1 102 53 = zI 0 := sI_same _ _ _ _
    rw [f_M_addsCousin_eq, f_M_addsCousin_3_eq, zI_0, g0, if_neg (by decide)]
    have g1 : (sI (sI σ 102 53 (zI 0)) 133 0 s1).1 102 53 = zI 0 := g0
    have g2 : ∀ x, (sI (sI (sI σ 102 53 (zI 0)) 133 0 s1) 134 0 x).1 102 53 = zI 0 := fun x => g0
    have g3 : ∀ x y, (sI (sI (sI (sI σ 102 53 (zI 0)) 133 0 s1) 134 0 x) 135 0 y).1 102 53 = zI 0 := fun x y => g0
    have g4 : ∀ x y z, (sI (sI (sI (sI (sI σ 102 53 (zI 0)) 133 0 s1) 134 0 x) 135 0 y) 136 0 z).1 102 53 = zI 0 := fun x y z => g0
    have g5 : ∀ x y z u, (sI (sI (sI (sI (sI (sI σ 102 53 (zI 0)) 133 0 s1) 134 0 x) 135 0 y) 136 0 z) 137 0 u).1 102 53 = zI 0 := fun x y z u => g0
    have bj : ∀ X : Rs, bnd (zI 0) 1440 X = X := fun X => bnd_zI (by decide) (by decide) (by decide)
    have ij : ix (zI 0) = 0 := ix_zI (by decide) (by decide)
    simp only [bj, ij, g1, g2, g3, g4, g5, show (1 : Int32) = zI 1 from zI_lit 1, zI_add, zI_neg, Int.reduceNeg, Int.zero_add, if_true]
  have cc : CC n (fun _ => (cut n (fun x => x), 0)) (fun _ => 0) (fun _ => 0) (fun _ => 0) 1 (sI (sI (sI (sI (sI (sI (sI σ 102 53 (zI 0)) 133 0 s1) 134 0 (zI 0)) 135 0 (zI (-1))) 136 0 (zI (-1))) 137 0 (zI 0)) 102 53 (zI 1)) := by
    refine ⟨sI_same _ _ _ _, fun j jm => ?_, fun j j1 jm => by omega, rfl, fun j jm => ⟨Int.le_refl 0, by show (0 : Int) ≤ (j : Int); omega⟩⟩
    have : j = 0 := by omega
    subst this
    exact ⟨⟨idn.cut, Or.inl rfl, cut_cut _ _⟩, p4.congr fun x x0 x1 => (cut_at (n := n) (g := fun x => x) x0 x1).symm, rfl, rfl⟩
  obtain ⟨q, pr, kd, fa, m, g, τ', b1, b2, b3, b4, b5, b6⟩ := cous31_sp (hm.fr F1 rfl (fun _ => rfl) (fun _ => rfl)) hN ((F1.2 _ _ rfl).trans e0) n2 (c2.congr fun x x0 x1 => (cut_at (g := W) x0 x1).symm) (d := d) 1440 0 _ _ _ _ 1 _ .null (by decide) (by decide) (BJ.init (al := alB) (nx := nxC n (goF W H C M)) (cut n (fun x => x), 0)) (fun k hk => by omega) cc (Fr.rf _ _)
  refine ⟨q, pr, kd, fa, m, g, τ', ?_, b2, b3, b4, b5, F1.tr b6⟩
  rw [f_M_laysCousins_eq, p1, cI_rI, c1, cI_rI]
  show (cI (f_M_plainWay (d + 4) (sI σ 102 53 (zI 0))) fun v7 σ6 => cV (f_M_addsCousin (d + 4) v7 (zI 0) (zI (-1)) (zI (-1)) σ6) fun σ8 => f_M_laysCousins_31 (d + 4) wv (zI 0) .null σ8) = _
  rw [p3, cI_rI, add0, cV_rV]
  exact b1
