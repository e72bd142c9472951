/-! groups put together -/
def Cn (E : Int → Int → Prop) (a b : Int) : Prop := ∀ K : Int → Prop, K a → (∀ u v, E u v → (K u ↔ K v)) → K b
theorem Cn.rf (E : Int → Int → Prop) (a : Int) : Cn E a a := fun _ h _ => h
theorem Cn.tr {E : Int → Int → Prop} {a b c : Int} (h : Cn E a b) (h' : Cn E b c) : Cn E a c := fun K k e => h' K (h K k e) e
theorem Cn.sy {E : Int → Int → Prop} {a b : Int} (h : Cn E a b) : Cn E b a := fun K k e => by
  have := h (fun z => K z → K a) id fun u v q => ⟨fun f k => f ((e u v q).mpr k), fun f k => f ((e u v q).mp k)⟩
  exact this k
theorem Cn.ed {E : Int → Int → Prop} {a b : Int} (h : E a b) : Cn E a b := fun _ k e => (e a b h).mp k
theorem Cn.mono {E E' : Int → Int → Prop} {a b : Int} (h : Cn E a b) (q : ∀ u v, E u v → E' u v) : Cn E' a b := fun K k e => h K k fun u v z => e u v (q u v z)
def Lab (n : Int) (E : Int → Int → Prop) (G : Int → Int) : Prop := (∀ u v, E u v → (0 ≤ u ∧ u < n) ∧ 0 ≤ v ∧ v < n) ∧ ∀ a, 0 ≤ a → a < n → 0 ≤ G a ∧ G a ≤ a ∧ Cn E a (G a) ∧ ∀ b, 0 ≤ b → b < n → Cn E a b → G b = G a
theorem Lab.congr {n : Int} {E E' : Int → Int → Prop} {G : Int → Int} (h : Lab n E G) (q : ∀ u v, E u v ↔ E' u v) : Lab n E' G := by
  have : E = E' := funext fun u => funext fun v => propext (q u v)
  rw [← this]; exact h
theorem Lab.le {n : Int} {E : Int → Int → Prop} {G : Int → Int} (h : Lab n E G) {a b : Int} (a0 : 0 ≤ a) (a1 : a < n) (b0 : 0 ≤ b) (b1 : b < n) (q : Cn E a b) : G a ≤ b := by
  rw [← (h.2 a a0 a1).2.2.2 b b0 b1 q]; exact (h.2 b b0 b1).2.1
theorem Lab.iff {n : Int} {E : Int → Int → Prop} {G : Int → Int} (h : Lab n E G) {a b : Int} (a0 : 0 ≤ a) (a1 : a < n) (b0 : 0 ≤ b) (b1 : b < n) : Cn E a b ↔ G a = G b := by
  constructor
  · exact fun q => ((h.2 a a0 a1).2.2.2 b b0 b1 q).symm
  · intro q
    have e1 := (h.2 a a0 a1).2.2.1
    have e2 := (h.2 b b0 b1).2.2.1
    rw [q] at e1; exact e1.tr e2.sy
def jnF (G : Int → Int) (x y i : Int) : Int := if G i = max (G x) (G y) then min (G x) (G y) else G i
theorem Lab.join {n : Int} {E : Int → Int → Prop} {G : Int → Int} (h : Lab n E G) {x y : Int} (x0 : 0 ≤ x) (x1 : x < n) (y0 : 0 ≤ y) (y1 : y < n) : Lab n (fun u v => E u v ∨ u = x ∧ v = y) (jnF G x y) := by
  obtain ⟨hx1, hx2, hx3, hx4⟩ := h.2 x x0 x1
  obtain ⟨hy1, hy2, hy3, hy4⟩ := h.2 y y0 y1
  have up : ∀ {a b}, Cn E a b → Cn (fun u v => E u v ∨ u = x ∧ v = y) a b := fun q => q.mono fun u v z => Or.inl z
  have exy : Cn (fun u v => E u v ∨ u = x ∧ v = y) x y := Cn.ed (Or.inr ⟨rfl, rfl⟩)
  have gxy : Cn (fun u v => E u v ∨ u = x ∧ v = y) (G x) (G y) := ((up hx3).sy.tr exy).tr (up hy3)
  have exn : jnF G x y x = jnF G x y y := by unfold jnF; split <;> split <;> omega
  refine ⟨fun u v q => ?_, fun a a0 a1 => ?_⟩
  · rcases q with q | ⟨rfl, rfl⟩
    · exact h.1 u v q
    · exact ⟨⟨x0, x1⟩, y0, y1⟩
  · obtain ⟨ha1, ha2, ha3, ha4⟩ := h.2 a a0 a1
    refine ⟨?_, ?_, ?_, fun b b0 b1 q => ?_⟩
    · unfold jnF; split <;> omega
    · unfold jnF; split <;> omega
    · unfold jnF
      by_cases z : G a = max (G x) (G y)
      · rw [if_pos z]
        refine (up ha3).tr ?_
        rw [z]
        rcases Int.le_total (G x) (G y) with q | q
        · rw [show max (G x) (G y) = G y by omega, show min (G x) (G y) = G x by omega]; exact gxy.sy
        · rw [show max (G x) (G y) = G x by omega, show min (G x) (G y) = G y by omega]; exact gxy
      · rw [if_neg z]; exact up ha3
    · have := q (fun z => 0 ≤ z → z < n → jnF G x y z = jnF G x y a) (fun _ _ => rfl) fun u v e => by
        rcases e with e | ⟨rfl, rfl⟩
        · obtain ⟨⟨u0, u1⟩, v0, v1⟩ := h.1 u v e
          have e2 := (h.2 u u0 u1).2.2.2 v v0 v1 (Cn.ed e)
          have e3 : jnF G x y v = jnF G x y u := by unfold jnF; rw [e2]
          exact ⟨fun f _ _ => e3.trans (f u0 u1), fun f _ _ => e3.symm.trans (f v0 v1)⟩
        · exact ⟨fun f _ _ => exn.symm.trans (f x0 x1), fun f _ _ => exn.trans (f y0 y1)⟩
      exact this b0 b1
theorem Lab.id (n : Int) : Lab n (fun _ _ => False) (fun i => i) := by
  refine ⟨fun u v q => q.elim, fun a a0 a1 => ⟨a0, Int.le_refl a, Cn.rf _ _, fun b b0 b1 q => ?_⟩⟩
  exact q (fun z => z = a) rfl fun u v e => e.elim
theorem join_sp {σ : Sg} {a N : Nat} (ha : SH a = (14, N)) (hN : N ≤ 1000) {d : Nat} {n x y : Int} {G : Int → Int} (n1 : n ≤ N) (x0 : 0 ≤ x) (x1 : x < n) (y0 : 0 ≤ y) (y1 : y < n) (hG : ∀ i, 0 ≤ i → i < n → σ.1 a i.toNat = zI (G i) ∧ 0 ≤ G i ∧ G i < n) : ∃ σ', f_N_join (d + 1) a (zI n) (zI x) (zI y) σ = rV σ' ∧ Fr (fun b _ => b == a) σ σ' ∧ ∀ i, 0 ≤ i → i < n → σ'.1 a i.toNat = zI (jnF G x y i) := by
  obtain ⟨gx, gx0, gx1⟩ := hG x x0 x1
  obtain ⟨gy, gy0, gy1⟩ := hG y y0 y1
  have main : ∀ (k : Nat) (i : Int) (v1 v2 : Value) (τ : Sg), i + k = n → 0 ≤ i → Fr (fun b _ => b == a) σ τ → (∀ j, 0 ≤ j → j < n → τ.1 a j.toNat = zI (if j < i then jnF G x y j else G j)) → ∃ σ', f_N_join_25 d a (zI n) v1 v2 (zI (min (G x) (G y))) (zI (max (G x) (G y))) (zI i) τ = rV σ' ∧ Fr (fun b _ => b == a) σ σ' ∧ ∀ i, 0 ≤ i → i < n → σ'.1 a i.toNat = zI (jnF G x y i) := by
    intro k
    induction k with
    | zero =>
      intro i v1 v2 τ hi i0 F hτ
      have : i = n := by omega
      subst this
      refine ⟨τ, ?_, F, fun j j0 j1 => by have := hτ j j0 j1; rwa [if_pos j1] at this⟩
      rw [f_N_join_25_eq, if_neg Int32.lt_irrefl]
    | succ k ih =>
      intro i v1 v2 τ hi i0 F hτ
      obtain ⟨-, gi0, gi1⟩ := hG i i0 (by omega)
      have ei := hτ i i0 (by omega)
      rw [if_neg (by omega)] at ei
      rw [f_N_join_25_eq, if_pos (by rw [zI_le (by omega) (by omega)]; omega), ldi_of ha i0 (by omega) (by omega), ei, show (1 : Int32) = zI 1 from zI_lit 1, zI_add]
      by_cases z : G i = max (G x) (G y)
      · rw [if_pos (congrArg zI z), stI_of ha i0 (by omega) (by omega)]
        refine ih (i + 1) _ _ _ (by omega) (by omega) (F.sI _ (by simp)) fun j j0 j1 => ?_
        by_cases q : j = i
        · subst q
          rw [sI_same, if_pos (by omega)]; unfold jnF; rw [if_pos z]
        · rw [sI_slot _ _ _ _ (by omega), hτ j j0 j1]
          by_cases q2 : j < i
          · rw [if_pos q2, if_pos (by omega)]
          · rw [if_neg q2, if_neg (by omega)]
      · rw [if_neg (by rw [zI_eq (by omega) (by omega)]; exact z)]
        refine ih (i + 1) _ _ _ (by omega) (by omega) F fun j j0 j1 => ?_
        rw [hτ j j0 j1]
        by_cases q2 : j < i
        · rw [if_pos q2, if_pos (by omega)]
        · rw [if_neg q2]
          by_cases q : j = i
          · subst q; rw [if_pos (by omega)]; unfold jnF; rw [if_neg z]
          · rw [if_neg (by omega)]
  rw [f_N_join_eq, ldi_of ha x0 (by omega) (by omega), ldi_of ha y0 (by omega) (by omega), ldi_of ha x0 (by omega) (by omega), ldi_of ha y0 (by omega) (by omega), gx, gy, mnI_zI (by omega) (by omega) (by omega) (by omega), mxI_zI (by omega) (by omega) (by omega) (by omega), zI_0]
  exact main n.toNat 0 _ _ σ (by omega) (by decide) (Fr.rf _ _) fun j j0 j1 => by rw [if_neg (by omega)]; exact (hG j j0 j1).1
/-! sides, in the class -/
def edF (W C : Int → Int) (i u v : Int) : Prop := 0 ≤ u ∧ u < i ∧ (v = W u ∨ v = C u)
def S74 (b _k : Nat) : Bool := b == 74
theorem RuleAt.fr5 {S : Nat → Nat → Bool} {σ σ' : Sg} {r : Nat} {n : Int} (h : RuleAt σ r n) (F : Fr S σ σ') (hS : ∀ k, S r k = false ∧ S (r + 1) k = false ∧ S (r + 2) k = false ∧ S (r + 3) k = false ∧ S (r + 4) k = false) : RuleAt σ' r n ∧ rd σ' (r + 1) = rd σ (r + 1) ∧ rd σ' (r + 2) = rd σ (r + 2) ∧ rd σ' (r + 3) = rd σ (r + 3) ∧ rd σ' (r + 4) = rd σ (r + 4) := by
  have e0 : rd σ' r 0 = rd σ r 0 := fr_rd F (hS _).1
  have e1 := fr_row F (a := r + 1) fun k => (hS k).2.1
  have e2 := fr_row F (a := r + 2) fun k => (hS k).2.2.1
  have e3 := fr_row F (a := r + 3) fun k => (hS k).2.2.2.1
  have e4 := fr_row F (a := r + 4) fun k => (hS k).2.2.2.2
  refine ⟨?_, e1, e2, e3, e4⟩
  unfold RuleAt at h ⊢
  rw [e0, e1, e2, e3, e4]; exact h
theorem sides_sp {σ : Sg} {r : Nat} {n : Int} (hr : RuleAt σ r n) (n0 : 0 ≤ n) {d : Nat} : ∃ σ' G, f_Changes_sides (d + 2) r σ = rI (zI (cnt (fun x => decide (G x = x)) n.toNat)) σ' ∧ Fr S74 σ σ' ∧ Lab n (edF (rd σ (r + 1)) (rd σ (r + 3)) n) G := by
  have n6 := hr.2.2.1
  have hS : ∀ k, S74 r k = false ∧ S74 (r + 1) k = false ∧ S74 (r + 2) k = false ∧ S74 (r + 3) k = false ∧ S74 (r + 4) k = false := by
    intro k; rcases hr.1 with rfl | rfl <;> exact ⟨rfl, rfl, rfl, rfl, rfl⟩
  have e0 : ∀ τ, Fr S74 σ τ → τ.1 r 0 = zI n := fun τ F => by rw [F.2 _ _ (hS 0).1, rd_k]; exact congrArg zI hr.2.1
  have cntL : ∀ (G : Int → Int) (τ : Sg), Fr S74 σ τ → (∀ i, 0 ≤ i → i < n → τ.1 74 i.toNat = zI (G i) ∧ 0 ≤ G i ∧ G i < n) → ∀ v, f_Changes_sides_79 (d + 1) r (zI 0) (zI 0) τ = v → v = rI (zI (cnt (fun x => decide (G x = x)) n.toNat)) τ := by
    intro G τ F hG v hv
    rw [← hv]
    refine zloop n (fun i (a' : Int) => f_Changes_sides_79 (d + 1) r (zI a') (zI i) τ) (fun i a' => 0 ≤ i ∧ a' = cnt (fun x => decide (G x = x)) i.toNat) (fun o => o = rI (zI (cnt (fun x => decide (G x = x)) n.toNat)) τ) ?_ ?_ 0 0 n0 ⟨by decide, rfl⟩
    · rintro i a' hi ⟨h0, rfl⟩
      refine Or.inr ⟨cnt (fun x => decide (G x = x)) (i + 1).toNat, ?_, by omega, rfl⟩
      obtain ⟨g1, g2, g3⟩ := hG i h0 hi
      show f_Changes_sides_79 _ _ _ _ τ = _
      rw [f_Changes_sides_79_eq, gfI_of hr.1.s0, e0 τ F, if_pos (by rw [zI_le (by omega) (by omega)]; exact hi), bnd_zI h0 (by omega) (by omega), ix_zI h0 (by omega), g1]
      rw [show (i + 1).toNat = i.toNat + 1 by omega, cnt_s, show ((i.toNat : Nat) : Int) = i by omega, show (1 : Int32) = zI 1 from zI_lit 1, zI_add, zI_add]
      by_cases q : G i = i
      · rw [if_pos (congrArg zI q), if_pos (decide_eq_true q)]
      · rw [if_neg (by rw [zI_eq (by omega) (by omega)]; exact q), if_neg (by simpa using q), Int.add_zero]
    · rintro a' ⟨-, rfl⟩
      show f_Changes_sides_79 _ _ _ _ τ = _
      rw [f_Changes_sides_79_eq, gfI_of hr.1.s0, e0 τ F, if_neg Int32.lt_irrefl]
  have hW : ∀ x, 0 ≤ x → x < n → 0 ≤ rd σ (r + 1) x ∧ rd σ (r + 1) x < n ∧ 0 ≤ rd σ (r + 3) x ∧ rd σ (r + 3) x < n := fun x x0 x1 => by
    obtain ⟨⟨a1, a2, -⟩, b1, b2, -⟩ := hr.2.2.2 x x0 x1; exact ⟨a1, a2, b1, b2⟩
  have joinL : ∀ (k : Nat) (i : Int) (G : Int → Int) (v : Value) (τ : Sg), i + k = n → 0 ≤ i → Fr S74 σ τ → Lab n (edF (rd σ (r + 1)) (rd σ (r + 3)) i) G → (∀ j, 0 ≤ j → j < n → τ.1 74 j.toNat = zI (G j)) → ∃ σ' G, f_Changes_sides_25 (d + 1) r (zI i) v τ = rI (zI (cnt (fun x => decide (G x = x)) n.toNat)) σ' ∧ Fr S74 σ σ' ∧ Lab n (edF (rd σ (r + 1)) (rd σ (r + 3)) n) G := by
    intro k
    induction k with
    | zero =>
      intro i G v τ hi i0 F hL hτ
      have : i = n := by omega
      subst this
      refine ⟨τ, G, ?_, F, hL⟩
      rw [f_Changes_sides_25_eq, gfI_of hr.1.s0, e0 τ F, if_neg Int32.lt_irrefl, zI_0]
      exact cntL G τ F (fun j j0 j1 => ⟨hτ j j0 j1, (hL.2 j j0 j1).1, by have := (hL.2 j j0 j1).2.1; omega⟩) _ rfl
    | succ k ih =>
      intro i G v τ hi i0 F hL hτ
      have i1 : i < n := by omega
      obtain ⟨w0, w1, c0, c1⟩ := hW i i0 i1
      obtain ⟨τ1, j1, F1, h1⟩ := join_sp (σ := τ) (a := 74) (N := 6) rfl (by decide) (d := d) (by omega) i0 i1 w0 w1 (G := G) fun j j0 j1 => ⟨hτ j j0 j1, (hL.2 j j0 j1).1, by have := (hL.2 j j0 j1).2.1; omega⟩
      have L1 := hL.join i0 i1 w0 w1
      have F01 : Fr S74 σ τ1 := F.tr F1
      obtain ⟨τ2, j2, F2, h2⟩ := join_sp (σ := τ1) (a := 74) (N := 6) rfl (by decide) (d := d) (by omega) i0 i1 c0 c1 (G := jnF G i (rd σ (r + 1) i)) fun j j0 j1 => ⟨h1 j j0 j1, (L1.2 j j0 j1).1, by have := (L1.2 j j0 j1).2.1; omega⟩
      have L2 := L1.join i0 i1 c0 c1
      have F02 : Fr S74 σ τ2 := F01.tr F2
      have ew : τ.1 (r + 1) i.toNat = zI (rd σ (r + 1) i) := by rw [F.2 _ _ (hS _).2.1, rd_k, toNat_c i0]
      have ec : τ1.1 (r + 3) i.toNat = zI (rd σ (r + 3) i) := by rw [F01.2 _ _ (hS _).2.2.2.1, rd_k, toNat_c i0]
      obtain ⟨σ', G', a1, a2, a3⟩ := ih (i + 1) _ v τ2 (by omega) (by omega) F02 (L2.congr fun u v => by
        unfold edF
        constructor
        · rintro ((⟨q1, q2, q3⟩ | ⟨rfl, rfl⟩) | ⟨rfl, rfl⟩)
          · exact ⟨q1, by omega, q3⟩
          · exact ⟨i0, by omega, Or.inl rfl⟩
          · exact ⟨i0, by omega, Or.inr rfl⟩
        · rintro ⟨q1, q2, q3⟩
          by_cases z : u = i
          · subst z
            rcases q3 with q3 | q3
            · exact Or.inl (Or.inr ⟨rfl, q3⟩)
            · exact Or.inr ⟨rfl, q3⟩
          · exact Or.inl (Or.inl ⟨q1, by omega, q3⟩)) h2
      refine ⟨σ', G', ?_, a2, a3⟩
      rw [f_Changes_sides_25_eq, gfI_of hr.1.s0, e0 τ F, if_pos (by rw [zI_le (by omega) (by omega)]; exact i1), gfI_of hr.1.s0, e0 τ F, gfS_of hr.1.s0, ofs_6_1, ldi_of hr.1.s1 i0 (by omega) (by omega), ew, j1, cV_rV, gfI_of hr.1.s0, e0 τ1 F01, gfS_of hr.1.s0, ofs_6_3, ldi_of hr.1.s3 i0 (by omega) (by omega), ec, j2, cV_rV, show (1 : Int32) = zI 1 from zI_lit 1, zI_add]
      exact a1
  have init : ∀ (k : Nat) (i : Int) (v : Value) (τ : Sg), i + k = n → 0 ≤ i → Fr S74 σ τ → (∀ j, 0 ≤ j → j < i → τ.1 74 j.toNat = zI j) → ∃ τ', f_Changes_sides_2 (d + 1) r (zI i) v τ = f_Changes_sides_25 (d + 1) r (zI 0) v τ' ∧ Fr S74 σ τ' ∧ (∀ j, 0 ≤ j → j < n → τ'.1 74 j.toNat = zI j) := by
    intro k
    induction k with
    | zero =>
      intro i v τ hi i0 F hτ
      have : i = n := by omega
      subst this
      refine ⟨τ, ?_, F, hτ⟩
      rw [f_Changes_sides_2_eq, gfI_of hr.1.s0, e0 τ F, if_neg Int32.lt_irrefl, zI_0]
    | succ k ih =>
      intro i v τ hi i0 F hτ
      have i1 : i < n := by omega
      obtain ⟨τ', a1, a2, a3⟩ := ih (i + 1) v (sI τ 74 i.toNat (zI i)) (by omega) (by omega) (F.sI _ rfl) fun j j0 j1 => by
        by_cases q : j = i
        · subst q; rw [sI_same]
        · rw [sI_slot _ _ _ _ (by omega)]; exact hτ j j0 (by omega)
      refine ⟨τ', ?_, a2, a3⟩
      rw [f_Changes_sides_2_eq, gfI_of hr.1.s0, e0 τ F, if_pos (by rw [zI_le (by omega) (by omega)]; exact i1), bnd_zI i0 (by omega) (by omega), ix_zI i0 (by omega), show (1 : Int32) = zI 1 from zI_lit 1, zI_add]
      exact a1
  obtain ⟨τ', a1, a2, a3⟩ := init n.toNat 0 .null σ (by omega) (by decide) (Fr.rf _ _) fun j j0 j1 => by omega
  obtain ⟨σ', G, b1, b2, b3⟩ := joinL n.toNat 0 (fun i => i) .null τ' (by omega) (by decide) a2 ((Lab.id n).congr fun u v => ⟨fun q => q.elim, fun q => by have := q.1; have := q.2.1; omega⟩) a3
  refine ⟨σ', G, ?_, b2, b3⟩
  rw [f_Changes_sides_eq, zI_0, a1, b1]
