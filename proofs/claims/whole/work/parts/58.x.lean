def wFin (d : Nat) (n s : Int) (σ : Sg) (o : Int ⊕ WS) (R : Rs) : Prop := ∃ σ', Fr SMw σ σ' ∧ (∀ u, o = Sum.inl u → R = rI (zI u) σ' ∧ ∃ z : Int, σ'.1 102 38 = zI z ∧ 0 ≤ z ∧ z ≤ 24) ∧ ∀ W', o = Sum.inr W' → MWo W' σ' ∧ WSk n W' ∧ ∃ y1 y2 y3 y4, R = f_M_readsWord_75 d y1 y2 y3 y4 (zI s) (zI 0) σ'
theorem wFin_bad {d : Nat} {n s : Int} {σ σ' : Sg} {u : Int} {R : Rs} {o : Int ⊕ WS} (F : Fr SMw σ σ') (e : o = Sum.inl u) (h : R = rI (zI u) σ') (b : ∃ z : Int, σ'.1 102 38 = zI z ∧ 0 ≤ z ∧ z ≤ 24) : wFin d n s σ o R := ⟨σ', F, fun v q => by rw [e] at q; obtain rfl := Sum.inl.inj q; exact ⟨h, b⟩, fun W' q => by rw [e] at q; cases q⟩
theorem loop0 {d : Nat} {s u : Int} {τ : Sg} {y1 y2 y5 y6 : Value} : f_M_readsWord_27 d y1 y2 (zI s) (zI 0) y5 y6 (sI τ 102 10 (zI u)) = rI (zI u) (sI τ 102 10 (zI u)) := by
  rw [f_M_readsWord_27_eq, if_pos (by decide), if_pos (by decide), sI_same]
theorem wRun_s {T : Int → Int} {n : Int} {k : Nat} {i : Int} {W W' : WS} (h : wByte W i (T i) = Sum.inr W') : wRun T n (k + 1) i W = wRun T n k (i + 1) W' := by
  show (match wByte W i (T i) with
    | Sum.inl v => Sum.inl v
    | Sum.inr W' => wRun T n k (i + 1) W') = _
  rw [h]
theorem wRun_b {T : Int → Int} {n : Int} {k : Nat} {i : Int} {W : WS} {u : Int} (h : wByte W i (T i) = Sum.inl u) : wRun T n (k + 1) i W = Sum.inl u := by
  show (match wByte W i (T i) with
    | Sum.inl v => Sum.inl v
    | Sum.inr W' => wRun T n k (i + 1) W') = _
  rw [h]
def wA (d : Nat) (f n s : Int) (T : Int → Int) (σ : Sg) (k : Nat) (i : Int) : Prop := ∀ (W : WS) (τ : Sg) (x1 x2 x3 y1 y2 y5 y6 : Value), Fr SMw σ τ → MW f n i W τ → WSk i W → τ.1 102 40 = zI (f + wStart W i) → τ.1 102 41 = zI (wTimes W) → (W.digit = 0 → i < n → ¬(50 ≤ T i ∧ T i ≤ 57)) → (i < n → T i = 41 → W.op = 0 ∨ W.due = true ∨ W.digit ≠ 0) → (i = n → W.digit ≠ 0 ∨ W.due = true ∨ 0 < W.op) → wFin (d + 3) n s σ (wRun T n k i W) (cI (f_M_readsStep_4 (d + 2) x1 x2 x3 τ) fun v6 σ5 => f_M_readsWord_27 (d + 3) y1 y2 (zI s) v6 y5 y6 σ5)
def wB (d : Nat) (f n s : Int) (T : Int → Int) (σ : Sg) (k : Nat) (i : Int) : Prop := ∀ (W : WS) (τ : Sg) (x1 x2 x3 y1 y2 y5 y6 : Value), Fr SMw σ τ → MW f n i W τ → WSk i W → W.digit = 0 → W.due = false → wFin (d + 3) n s σ (wRun T n k i W) (cI (f_M_readsStep_234 (d + 2) x1 x2 x3 τ) fun v6 σ5 => f_M_readsWord_27 (d + 3) y1 y2 (zI s) v6 y5 y6 σ5)
/-- from before the times on -/
theorem wStep_sp {d : Nat} {f n s : Int} {T : Int → Int} {σ : Sg} (ht : MT f n T σ) (f0 : 0 ≤ f) (fn : f + n ≤ 260) (tb : ∀ j, 0 ≤ j → j < n → 0 ≤ T j ∧ T j < 256) {k : Nat} {i : Int} (ik : i + k = n) (i0 : 0 ≤ i) (hA : wA d f n s T σ k i) (hA' : ∀ k', k = k' + 1 → wA d f n s T σ k' (i + 1)) {W : WS} {τ : Sg} {x1 x2 x3 y1 y2 y5 y6 : Value} (F : Fr SMw σ τ) (h : MW f n i W τ) (hk : WSk i W) (w0 : W.digit = 0) (c41 : i < n → T i = 41 → W.op = 0 ∨ W.due = true) (ce : i = n → W.due = true ∨ 0 < W.op) :
    wFin (d + 3) n s σ (wRun T n k i W) (cI (cV (f_M_readsTimes (d + 2) τ) fun σ1 => f_M_readsStep_4 (d + 2) x1 x2 x3 σ1) fun v6 σ5 => f_M_readsWord_27 (d + 3) y1 y2 (zI s) v6 y5 y6 σ5) := by
  obtain ⟨τ', F', e, hh⟩ := readsTimes_sp (d := d) (ht.fr F fun _ => rfl) h hk w0 f0 fn i0 (by omega) tb
  rw [e, cV_rV]
  rcases hh with ⟨hM, e40, e41, nd⟩ | ⟨i1, c0, c1, hM, e40, e41⟩
  · exact hA W τ' x1 x2 x3 y1 y2 y5 y6 (F.tr F') hM hk e40 e41 (fun _ => nd) (fun a b => (c41 a b).elim Or.inl fun z => Or.inr (Or.inl z)) (fun a => Or.inr (ce a))
  · obtain ⟨k', rfl⟩ : ∃ k', k = k' + 1 := ⟨k - 1, by omega⟩
    rw [wRun_s (wByte_dig w0 c0 c1)]
    have nd : (wDig W (T i)).digit ≠ 0 := show ¬ (T i - 48 = 0) by omega
    exact hA' k' rfl (wDig W (T i)) τ' x1 x2 x3 y1 y2 y5 y6 (F.tr F') hM (wDig_k hk i0 c0 c1) e40 e41 (fun z => absurd z nd) (fun _ _ => Or.inr (Or.inr nd)) (fun _ => Or.inl nd)
/-- behind a step -/
theorem wB_sp {d : Nat} {f n s : Int} {T : Int → Int} {σ : Sg} (ht : MT f n T σ) (f0 : 0 ≤ f) (fn : f + n ≤ 260) (tb : ∀ j, 0 ≤ j → j < n → 0 ≤ T j ∧ T j < 256) {k : Nat} {i : Int} (ik : i + k = n) (i0 : 0 ≤ i) (hA : wA d f n s T σ k i) (hA' : ∀ k', k = k' + 1 → wA d f n s T σ k' (i + 1)) (hB' : ∀ k', k = k' + 1 → wB d f n s T σ k' (i + 1)) : wB d f n s T σ k i := by
  intro W τ x1 x2 x3 y1 y2 y5 y6 F h hk w0 u
  obtain ⟨h1, h2, h3, h4, h5, h6, h7⟩ := id h
  obtain ⟨o0, o1⟩ := hk.o
  obtain ⟨s0, s1⟩ := hk.s
  have eh := here_sp (d := d + 1) (ht.fr F fun _ => rfl) h4 h5 f0 fn i0 (by omega)
  have cb : -1 ≤ (if i < n then T i else -1) ∧ (if i < n then T i else -1) < 256 := by
    split
    · have := tb i i0 (by assumption); omega
    · omega
  have c41 : (zI (if i < n then T i else -1) = 41) = ((if i < n then T i else -1) = 41) := by rw [show (41 : Int32) = zI 41 from zI_lit 41]; exact zI_eq (by omega) (by decide)
  have c0 : (0 < τ.1 102 39) = (0 < W.op) := by rw [h2, zI_0]; exact zI_le (by decide) (by omega)
  by_cases q : (if i < n then T i else -1) = 41 ∧ 0 < W.op
  · obtain ⟨q1, q2⟩ := q
    have i1 : i < n := by
      by_cases z : i < n
      · exact z
      · rw [if_neg z] at q1; omega
    have q1' : T i = 41 := by rw [if_pos i1] at q1; exact q1
    obtain ⟨k', rfl⟩ : ∃ k', k = k' + 1 := ⟨k - 1, by omega⟩
    obtain ⟨a0, a1, a2, a3, a4, a5⟩ := hk.y (W.op - 1) (by omega) (by omega)
    have lz := hk.z u (W.op - 1) (by omega) (by omega)
    obtain ⟨ra, rs, rt⟩ := h7 (W.op - 1) (by omega) (by omega)
    have wb : wByte W i (T i) = wPop W := by
      unfold wByte
      rw [if_neg (by omega), if_pos q1', if_neg (by
        rintro (z | z | z)
        · omega
        · rw [u] at z; cases z
        · exact z w0)]
    generalize hτ : sI (sI τ 102 8 (zI (f + (i + 1)))) 102 39 (zI (W.op - 1)) = τ1
    have F1 : Fr SMw σ τ1 := hτ ▸ (F.sI _ rfl).sI _ rfl
    have g38 : τ1.1 102 38 = zI W.size := by rw [← hτ, sI_slot _ _ _ _ (by decide), sI_slot _ _ _ _ (by decide)]; exact h1
    have g39 : τ1.1 102 39 = zI (W.op - 1) := by rw [← hτ]; exact sI_same _ _ _ _
    have g42 : τ1.1 102 42 = zI f := by rw [← hτ, sI_slot _ _ _ _ (by decide), sI_slot _ _ _ _ (by decide)]; exact h3
    have g8 : τ1.1 102 8 = zI (f + (i + 1)) := by rw [← hτ, sI_slot _ _ _ _ (by decide)]; exact sI_same _ _ _ _
    have g9 : τ1.1 102 9 = zI (f + n) := by rw [← hτ, sI_slot _ _ _ _ (by decide), sI_slot _ _ _ _ (by decide)]; exact h5
    have gr : ∀ b j, b ≠ 102 → τ1.1 b j = τ.1 b j := fun b j hb => by rw [← hτ, sI_row _ _ _ _ _ hb, sI_row _ _ _ _ _ hb]
    have st : f_M_readsStep_234 (d + 2) x1 x2 x3 τ = cI (f_M_repeats (d + 2) (zI (W.os (W.op - 1))) (zI (W.ot (W.op - 1))) (zI (W.oa (W.op - 1))) τ1) fun v6 σ5 => if v6 = 0 then rZ 0 σ5 else f_M_readsStep_234 (d + 2) x1 x2 x3 σ5 := by
      rw [f_M_readsStep_234_eq, eh, cI_rI, if_pos (c41.mpr q1), if_pos (c0.mpr q2), h4, show (1 : Int32) = zI 1 from zI_lit 1, zI_add]
      have p : sI (sI τ 102 8 (zI (f + i + 1))) 102 39 ((sI τ 102 8 (zI (f + i + 1))).1 102 39 - zI 1) = τ1 := by
        rw [← hτ, sI_slot _ _ _ _ (by decide), h2, zI_sub, Int.add_assoc]
      show (bnd ((sI (sI τ 102 8 (zI (f + i + 1))) 102 39 ((sI τ 102 8 (zI (f + i + 1))).1 102 39 - zI 1)).1 102 39) 2 _) = _
      rw [p, g39, bnd_zI (by omega) (by omega) (by omega), bnd_zI (by omega) (by omega) (by omega), bnd_zI (by omega) (by omega) (by omega), ix_zI (by omega) (by omega), gr 127 _ (by decide), gr 128 _ (by decide), gr 126 _ (by decide), rs, rt, ra, g42, zI_sub, show f + W.oa (W.op - 1) - f = W.oa (W.op - 1) by omega]
    rw [st]
    rcases repeats_sp (d := d) (s := W.oa (W.op - 1)) (g := W.st) (h := W.pl) a4 lz s1 a2 a3 g38 (fun x x0 x1 => by rw [gr 124 _ (by decide), gr 125 _ (by decide)]; exact h6 x x0 x1) with ⟨big, e⟩ | ⟨sm, τ2, F2, e, e38, hr⟩
    · have wp : wPop W = Sum.inl (-6000 - W.oa (W.op - 1)) := if_pos big
      rw [e, cI_rI, if_pos (by decide)]
      refine wFin_bad (σ' := sI τ1 102 10 (zI (-6000 - W.oa (W.op - 1)))) (F1.sI _ rfl) (wRun_b (wb.trans wp)) ?_ ⟨W.size, (sI_slot _ _ _ _ (by decide)).trans g38, by omega, by omega⟩
      rw [rZ_0, cI_rI]
      exact loop0
    · have wp : wPop W = Sum.inr (WS.mk (wLast W) (W.op - 1) W.digit W.due (wrep W.st (W.os (W.op - 1)) (W.size - W.os (W.op - 1))) (wrep W.pl (W.os (W.op - 1)) (W.size - W.os (W.op - 1))) W.oa W.ot W.os) := if_neg (by unfold wLast; omega)
      have F3 : Fr SMw σ τ2 := F1.tr (F2.mono fun a k e => by
        cases g : SRp a k with
        | false => rfl
        | true =>
          simp only [SRp, Bool.or_eq_true, Bool.and_eq_true, beq_iff_eq] at g
          rcases g with (rfl | rfl) | ⟨rfl, rfl⟩ <;> simp [SMw] at e)
      rw [e, cI_rI, if_neg (by decide), wRun_s (wb.trans wp)]
      refine hB' k' rfl _ τ2 x1 x2 x3 y1 y2 y5 y6 F3 ?_ (wPop_k hk i0 (by omega) u wp) w0 u
      refine ⟨e38, (F2.2 _ _ rfl).trans g39, (F2.2 _ _ rfl).trans g42, (F2.2 _ _ rfl).trans g8, (F2.2 _ _ rfl).trans g9, hr, fun x x0 x1 => ?_⟩
      have x1 : x < W.op - 1 := x1
      rw [F2.2 126 _ rfl, F2.2 127 _ rfl, F2.2 128 _ rfl, gr 126 _ (by decide), gr 127 _ (by decide), gr 128 _ (by decide)]
      exact h7 x x0 (by omega)
  · have st : f_M_readsStep_234 (d + 2) x1 x2 x3 τ = rI (zI 1) τ := by
      rw [f_M_readsStep_234_eq, eh, cI_rI]
      by_cases q1 : (if i < n then T i else -1) = 41
      · rw [if_pos (c41.mpr q1), if_neg (fun z => q ⟨q1, c0.mp z⟩), rZ_1]
      · rw [if_neg (fun z => q1 (c41.mp z)), rZ_1]
    rw [st, cI_rI, f_M_readsWord_27_eq, if_neg (by decide), h4, h5]
    have more : (i < n ∨ 0 < W.op) → wFin (d + 3) n s σ (wRun T n k i W) (cI (f_M_readsStep (d + 3) τ) fun v6 σ5 => f_M_readsWord_27 (d + 3) y1 y2 (zI s) v6 y5 y6 σ5) := fun hm => by
      rw [f_M_readsStep_eq]
      exact wStep_sp ht f0 fn tb ik i0 hA hA' F h hk w0 (fun a b => Or.inl (by
        have : ¬ 0 < W.op := fun z => q ⟨by rw [if_pos a]; exact b, z⟩
        omega)) (fun a => Or.inr (by omega))
    by_cases m1 : i < n
    · rw [if_pos (by rw [zI_le (by omega) (by omega)]; omega)]
      exact more (Or.inl m1)
    · rw [if_neg (by rw [zI_le (by omega) (by omega)]; omega)]
      by_cases m2 : 0 < W.op
      · rw [if_pos (c0.mpr m2)]
        exact more (Or.inr m2)
      · rw [if_neg (fun z => m2 (c0.mp z)), if_neg (by decide)]
        have k0 : k = 0 := by omega
        subst k0
        have er : wRun T n 0 i W = Sum.inr W := if_neg (by
          rintro (z | z | z)
          · exact z w0
          · rw [u] at z; cases z
          · exact m2 z)
        have en : i = n := by omega
        refine ⟨τ, F, fun v e => (by rw [er] at e; cases e), fun W' e => ?_⟩
        rw [er] at e
        obtain rfl := Sum.inr.inj e
        exact ⟨⟨h1, h6⟩, en ▸ hk, _, _, _, _, rfl⟩
