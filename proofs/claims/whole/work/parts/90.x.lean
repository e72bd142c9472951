/-! COUSIN in the reference -/
def cut (n : Int) (g : Int → Int) : Int → Int := fun x => if 0 ≤ x ∧ x < n then g x else 0
theorem cut_at {n : Int} {g : Int → Int} {x : Int} (x0 : 0 ≤ x) (x1 : x < n) : cut n g x = g x := if_pos ⟨x0, x1⟩
theorem cut_eq {n : Int} {g h : Int → Int} : cut n g = cut n h ↔ EqN n g h := by
  constructor
  · intro e x x0 x1
    have := congrFun e x
    rwa [cut_at x0 x1, cut_at x0 x1] at this
  · intro e
    funext x
    unfold cut
    split
    · rename_i z; exact e x z.1 z.2
    · rfl
def Nd : Type := (Int → Int) × Int
def NdOk (n : Int) (v : Nd) : Prop := onN n v.1 ∧ (v.2 = 0 ∨ v.2 = 1) ∧ cut n v.1 = v.1
theorem onN.cut {n : Int} {g : Int → Int} (h : onN n g) : onN n (cut n g) := ⟨fun x x0 x1 => by rw [cut_at x0 x1]; exact h.1 x x0 x1, fun x y x0 x1 y0 y1 e => h.2 x y x0 x1 y0 y1 (by rwa [cut_at x0 x1, cut_at y0 y1] at e)⟩
theorem cut_cut (n : Int) (g : Int → Int) : cut n (cut n g) = cut n g := cut_eq.mpr fun x x0 x1 => cut_at x0 x1
def nxC (n : Int) (G : Int → Int → Int → Int) (k : Int) (v : Nd) : Nd := (cut n (fun x => G k v.2 (v.1 x)), k % 2)
theorem nxC_ok {n : Int} {G : Int → Int → Int → Int} (hG : ∀ k s, onN n (G k s)) {k : Int} {v : Nd} (hv : NdOk n v) : NdOk n (nxC n G k v) := ⟨(onN_comp (hG k v.2) hv.1).cut, by show k % 2 = 0 ∨ k % 2 = 1; omega, cut_cut _ _⟩
def alB (k : Int) : Bool := decide (k ≠ 2 ∧ k ≠ 3)
theorem nodes_le {n : Int} (n2 : 2 ≤ n) (n6 : n ≤ 6) {q : Nat → Nd} {m : Nat} (ok : ∀ j, j < m → NdOk n (q j)) (hd : ∀ i j, i < j → j < m → q i ≠ q j) : m ≤ 2 * fac n.toNat := by
  rcases Nat.lt_or_ge (2 * fac n.toNat) m with z | z
  · obtain ⟨i, j, ij, hj, e⟩ := php (2 * fac n.toNat) (fun i => 2 * ((nr n (q i).1 : Nat) : Int) + (q i).2) fun i hi => by
      have a := ok i (by omega)
      have b := (nr_ok n2 n6 a.1).1
      have c := a.2.1
      show 0 ≤ 2 * ((nr n (q i).1 : Nat) : Int) + (q i).2 ∧ 2 * ((nr n (q i).1 : Nat) : Int) + (q i).2 < ((2 * fac n.toNat : Nat) : Int)
      omega
    have e : 2 * ((nr n (q i).1 : Nat) : Int) + (q i).2 = 2 * ((nr n (q j).1 : Nat) : Int) + (q j).2 := e
    have a := ok i (by omega); have b := ok j (by omega)
    have c := a.2.1; have d := b.2.1
    have e1 : nr n (q i).1 = nr n (q j).1 := by omega
    have e2 : (q i).2 = (q j).2 := by omega
    have e3 := (nr_inj n2 n6 a.1 b.1).mp e1
    have e4 : (q i).1 = (q j).1 := by rw [← a.2.2, ← b.2.2]; exact cut_eq.mpr e3
    exact absurd (Prod.ext e4 e2) (hd i j ij (by omega))
  · exact z
def SCo (a k : Nat) : Bool := a == 133 || a == 134 || a == 135 || a == 136 || a == 137 || (a == 102 && k == 53)
def CC (n : Int) (q : Nat → Nd) (pr : Nat → Nat) (kd fa : Nat → Int) (m : Nat) (τ : Sg) : Prop := τ.1 102 53 = zI (m : Int) ∧ (∀ j, j < m → NdOk n (q j) ∧ Cd n (q j).1 (τ.1 133 j) ∧ τ.1 134 j = zI (q j).2 ∧ τ.1 137 j = zI (fa j)) ∧ (∀ j, 1 ≤ j → j < m → τ.1 135 j = zI (pr j : Int) ∧ τ.1 136 j = zI (kd j) ∧ fa j = fa (pr j) + 1) ∧ fa 0 = 0 ∧ ∀ j, j < m → 0 ≤ fa j ∧ fa j ≤ j
theorem wayBy_sp {τ : Sg} {d : Nat} {n : Int} {W H C M : Int → Int} (hm : MR4 τ n W H C M) (hN : NmOk n W H C M) (e0 : τ.1 102 5 = zI n) (n0 : 0 ≤ n) {g : Int → Int} {s : Int32} (c : Cd n g s) (hg : onN n g) {k w : Int} (k0 : 0 ≤ k) (k8 : k < 8) (w01 : w = 0 ∨ w = 1) : ∃ t, f_M_wayBy (d + 3) s (zI k) (zI w) τ = rI t τ ∧ Cd n (fun x => goF W H C M k w (g x)) t := by
  have n6 := hN.1
  have main : ∀ (b : Nat) (x : Int) (t : Int32), x + b = n → 0 ≤ x → Cd x (fun x => goF W H C M k w (g x)) t → ∃ u, f_M_wayBy_6 (d + 2) s (zI k) (zI w) t (zI x) τ = rI u τ ∧ Cd n (fun x => goF W H C M k w (g x)) u := by
    intro b
    induction b with
    | zero =>
      intro x t hx x0 h
      have : x = n := by omega
      subst this
      exact ⟨t, by rw [f_M_wayBy_6_eq, e0, if_neg Int32.lt_irrefl], h⟩
    | succ b ih =>
      intro x t hx x0 h
      have gb := hg.1 x x0 (by omega)
      have fb := goF_lt hN (k := k) (s := w) gb.1 gb.2
      obtain ⟨u, a1, a2⟩ := ih (x + 1) _ (by omega) (by omega) (h.step x0 (by omega) fb.1 (by omega))
      refine ⟨u, ?_, a2⟩
      rw [f_M_wayBy_6_eq, e0, if_pos (by rw [zI_le (by omega) (by omega)]; omega), nameIn_sp c n6 x0 (by omega) gb.1 (by omega), cI_rI, nameBy_sp hm k0 k8 w01 gb.1 gb.2, cI_rI, show (3 : Int32) = zI 3 from zI_lit 3, show (31 : Int32) = zI 31 from zI_lit 31, show (1 : Int32) = zI 1 from zI_lit 1, zI_mul, zI_add]
      exact a1
  rw [f_M_wayBy_eq, zI_0]
  exact main n.toNat 0 _ (by omega) (by decide) (Cd.zero _)
theorem addsCousin_sp {τ : Sg} {d : Nat} {n : Int} (n2 : 2 ≤ n) (n6 : n ≤ 6) {q : Nat → Nd} {pr : Nat → Nat} {kd fa : Nat → Int} {m K : Nat} {c : Int} (hQ : CC n q pr kd fa m τ) (hd : ∀ i j, i < j → j < m → q i ≠ q j) (hp : ∀ j, 1 ≤ j → j < m → pr j < j) (Km : K < m) {v : Nd} (hv : NdOk n v) {t : Int32} (ct : Cd n v.1 t) : (∃ j, j < m ∧ q j = v) ∧ f_M_addsCousin (d + 1) t (zI v.2) (zI (K : Int)) (zI c) τ = rV τ ∨ (¬ ∃ j, j < m ∧ q j = v) ∧ ∃ τ', f_M_addsCousin (d + 1) t (zI v.2) (zI (K : Int)) (zI c) τ = rV τ' ∧ Fr SCo τ τ' ∧ CC n (fun j => if j = m then v else q j) (fun j => if j = m then K else pr j) (fun j => if j = m then c else kd j) (fun j => if j = m then fa K + 1 else fa j) (m + 1) τ' := by
  have fb := fac_bd n.toNat (by omega)
  obtain ⟨h1, h2, h3, h4, h5⟩ := hQ
  have mle := nodes_le n2 n6 (fun j jm => (h2 j jm).1) hd
  have main : ∀ (b j : Nat), j + b = m → (∀ i, i < j → q i ≠ v) → (∃ j, j < m ∧ q j = v) ∧ f_M_addsCousin_3 d t (zI v.2) (zI (K : Int)) (zI c) (zI (j : Int)) τ = rV τ ∨ (¬ ∃ j, j < m ∧ q j = v) ∧ ∃ τ', f_M_addsCousin_3 d t (zI v.2) (zI (K : Int)) (zI c) (zI (j : Int)) τ = rV τ' ∧ Fr SCo τ τ' ∧ CC n (fun j => if j = m then v else q j) (fun j => if j = m then K else pr j) (fun j => if j = m then c else kd j) (fun j => if j = m then fa K + 1 else fa j) (m + 1) τ' := by
    intro b
    induction b with
    | zero =>
      intro j hj hn
      have : j = m := by omega
      subst this
      have ne : ¬ ∃ i, i < j ∧ q i = v := fun ⟨i, i1, i2⟩ => hn i i1 i2
      have mle' : j + 1 ≤ 2 * fac n.toNat := nodes_le n2 n6 (q := fun i => if i = j then v else q i) (m := j + 1) (fun i hi => by
        show NdOk n (if i = j then v else q i)
        by_cases z : i = j
        · rw [if_pos z]; exact hv
        · rw [if_neg z]; exact (h2 i (by omega)).1) (fun i i' ii hi => by
        show (if i = j then v else q i) ≠ (if i' = j then v else q i')
        rw [if_neg (show ¬ i = j by omega)]
        by_cases z : i' = j
        · rw [if_pos z]; exact fun e => ne ⟨i, by omega, e⟩
        · rw [if_neg z]; exact hd i i' ii (by omega))
      have eK := (h2 K Km).2.2.2
      refine Or.inr ⟨ne, sI (sI (sI (sI (sI (sI τ 133 j t) 134 j (zI v.2)) 135 j (zI (K : Int))) 136 j (zI c)) 137 j (zI (fa K + 1))) 102 53 (zI ((j : Int) + 1)), ?_, ((((((Fr.rf _ τ).sI _ rfl).sI _ rfl).sI _ rfl).sI _ rfl).sI _ rfl).sI _ rfl, ?_⟩
      · rw [f_M_addsCousin_3_eq, h1, if_neg Int32.lt_irrefl]
        have g1 : (sI τ 133 j t).1 102 53 = zI (j : Int) := h1
        have g2 : ∀ x, (sI (sI τ 133 j t) 134 j x).1 102 53 = zI (j : Int) := fun x => h1
        have g3 : ∀ x y, (sI (sI (sI τ 133 j t) 134 j x) 135 j y).1 102 53 = zI (j : Int) := fun x y => h1
        have g4 : ∀ x y z, (sI (sI (sI (sI τ 133 j t) 134 j x) 135 j y) 136 j z).1 102 53 = zI (j : Int) := fun x y z => h1
        have g5 : ∀ x y z u, (sI (sI (sI (sI (sI τ 133 j t) 134 j x) 135 j y) 136 j z) 137 j u).1 102 53 = zI (j : Int) := fun x y z u => h1
        have g6 : ∀ x y z, (sI (sI (sI (sI τ 133 j t) 134 j x) 135 j y) 136 j z).1 137 K = zI (fa K) := fun x y z => eK
        have bj : ∀ X : Rs, bnd (zI (j : Int)) 1440 X = X := fun X => bnd_zI (by omega) (by omega) (by omega)
        have bK : ∀ X : Rs, bnd (zI (K : Int)) 1440 X = X := fun X => bnd_zI (by omega) (by omega) (by omega)
        have ij : ix (zI (j : Int)) = j := by rw [ix_zI (by omega) (by omega), Int.toNat_natCast]
        have iK : ix (zI (K : Int)) = K := by rw [ix_zI (by omega) (by omega), Int.toNat_natCast]
        simp only [bj, bK, ij, iK, g1, g2, g3, g4, g5, g6, show (1 : Int32) = zI 1 from zI_lit 1, zI_add]
        rw [if_neg (by rw [zI_neg, zI_eq (by omega) (by decide)]; omega)]
      · have rowE : ∀ a i, a ≠ 102 → i ≠ j → (sI (sI (sI (sI (sI (sI τ 133 j t) 134 j (zI v.2)) 135 j (zI (K : Int))) 136 j (zI c)) 137 j (zI (fa K + 1))) 102 53 (zI ((j : Int) + 1))).1 a i = τ.1 a i := fun a i ha hi => by
          rw [sI_row _ _ _ _ _ ha, sI_slot _ _ _ _ hi, sI_slot _ _ _ _ hi, sI_slot _ _ _ _ hi, sI_slot _ _ _ _ hi, sI_slot _ _ _ _ hi]
        refine ⟨by rw [sI_same]; rfl, fun i hi => ?_, fun i i1 hi => ?_, ?_, fun i hi => ?_⟩
        · show NdOk n (if i = j then v else q i) ∧ Cd n (if i = j then v else q i).1 _ ∧ _ = zI (if i = j then v else q i).2 ∧ _ = zI (if i = j then fa K + 1 else fa i)
          by_cases z : i = j
          · subst z
            simp only [if_true]
            refine ⟨hv, ?_, ?_, ?_⟩
            · rw [sI_row _ _ _ _ _ (by decide), sI_row _ _ _ _ _ (by decide), sI_row _ _ _ _ _ (by decide), sI_row _ _ _ _ _ (by decide), sI_row _ _ _ _ _ (by decide), sI_same]; exact ct
            · rw [sI_row _ _ _ _ _ (by decide), sI_row _ _ _ _ _ (by decide), sI_row _ _ _ _ _ (by decide), sI_row _ _ _ _ _ (by decide), sI_same]
            · rw [sI_row _ _ _ _ _ (by decide), sI_same]
          · simp only [if_neg z]
            rw [rowE 133 i (by decide) z, rowE 134 i (by decide) z, rowE 137 i (by decide) z]
            exact h2 i (by omega)
        · show _ = zI ((if i = j then K else pr i : Nat) : Int) ∧ _ = zI (if i = j then c else kd i) ∧ (if i = j then fa K + 1 else fa i) = (if (if i = j then K else pr i) = j then fa K + 1 else fa (if i = j then K else pr i)) + 1
          by_cases z : i = j
          · subst z
            simp only [if_true]
            rw [if_neg (show ¬ K = i by omega)]
            refine ⟨?_, ?_, rfl⟩
            · rw [sI_row _ _ _ _ _ (by decide), sI_row _ _ _ _ _ (by decide), sI_row _ _ _ _ _ (by decide), sI_same]
            · rw [sI_row _ _ _ _ _ (by decide), sI_row _ _ _ _ _ (by decide), sI_same]
          · have := hp i i1 (by omega)
            simp only [if_neg z]
            rw [if_neg (show ¬ pr i = j by omega), rowE 135 i (by decide) z, rowE 136 i (by decide) z]
            exact h3 i i1 (by omega)
        · show (if 0 = j then fa K + 1 else fa 0) = 0
          rw [if_neg (by omega)]; exact h4
        · show 0 ≤ (if i = j then fa K + 1 else fa i) ∧ (if i = j then fa K + 1 else fa i) ≤ (i : Int)
          have := h5 K Km
          by_cases z : i = j
          · rw [if_pos z]; omega
          · rw [if_neg z]; exact h5 i (by omega)
    | succ b ih =>
      intro j hj hn
      obtain ⟨o1, o2, o3, -⟩ := h2 j (by omega)
      have ee := Cd.eq n6 o2 ct o1.1 hv.1
      have bj : ∀ X : Rs, bnd (zI (j : Int)) 1440 X = X := fun X => bnd_zI (by omega) (by omega) (by omega)
      have ij : ix (zI (j : Int)) = j := by rw [ix_zI (by omega) (by omega), Int.toNat_natCast]
      have go : q j ≠ v → f_M_addsCousin_3 d t (zI v.2) (zI (K : Int)) (zI c) (zI (j : Int)) τ = f_M_addsCousin_3 d t (zI v.2) (zI (K : Int)) (zI c) (zI ((j + 1 : Nat) : Int)) τ := fun ne => by
        rw [f_M_addsCousin_3_eq, h1, if_pos (by rw [zI_le (by omega) (by omega)]; omega), bj, bj, ij, o3, show (1 : Int32) = zI 1 from zI_lit 1, zI_add]
        by_cases z : τ.1 133 j = t
        · rw [if_pos z]
          have e1 : (q j).1 = v.1 := by rw [← o1.2.2, ← hv.2.2]; exact cut_eq.mpr (ee.mp z)
          have b1 := o1.2.1; have b2 := hv.2.1
          rw [if_neg]
          · rfl
          · intro y
            rw [zI_eq (by omega) (by omega)] at y
            exact ne (Prod.ext e1 y)
        · rw [if_neg z]; rfl
      by_cases z : q j = v
      · refine Or.inl ⟨⟨j, by omega, z⟩, ?_⟩
        rw [f_M_addsCousin_3_eq, h1, if_pos (by rw [zI_le (by omega) (by omega)]; omega), bj, bj, ij, o3, if_pos (ee.mpr (by rw [z]; exact fun _ _ _ => rfl)), if_pos (by rw [z])]
      · rw [go z]
        exact ih (j + 1) (by omega) fun i hi => by
          by_cases y : i = j
          · rw [y]; exact z
          · exact hn i (by omega)
  rw [f_M_addsCousin_eq, zI_0]
  exact main m 0 (by omega) fun i hi => by omega
