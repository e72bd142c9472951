/-! rule: both read it -/
theorem nmOk_of {k : Int} {W H C M : Int → Int} (k6 : k ≤ 6) (hW : onN k W) (hC : onN k C) (h1 : ∀ x, 0 ≤ x → x < k → H (W x) = x ∧ M (C x) = x) : NmOk k W H C M := ⟨k6, fun x x0 x1 => by
  obtain ⟨y, y0, y1, rfl⟩ := onN_surj hW x0 x1
  obtain ⟨z, z0, z1, e⟩ := onN_surj hC x0 x1
  have a := hW.1 _ x0 x1
  have b := hC.1 _ x0 x1
  have c := (h1 _ x0 x1).2
  have c1 := (h1 _ x0 x1).1
  have e1 := (h1 y y0 y1).1
  have e2 := (h1 z z0 z1).2
  rw [e] at e2
  exact ⟨⟨a.1, a.2, by rw [e1]; exact y0, by rw [e1]; exact y1, c1, by rw [e1]⟩, b.1, b.2, by rw [e2]; exact z0, by rw [e2]; exact z1, c, by rw [e2, e]⟩⟩
theorem NmsAt.on {T : Int → Int} {j k : Int} (h : NmsAt T j k) (hl : ∀ x, 0 ≤ x → x < k → T (j + x) - 97 < k) : onN k (fun x => T (j + x) - 97) := ⟨fun x x0 x1 => by
  have := h.1 x x0 x1
  have := hl x x0 x1
  show 0 ≤ T (j + x) - 97 ∧ T (j + x) - 97 < k
  omega, fun x y x0 x1 y0 y1 e => by
  have e : T (j + x) - 97 = T (j + y) - 97 := e
  rcases Int.lt_trichotomy x y with z | z | z
  · exact absurd (show T (j + x) = T (j + y) by omega) (h.2 x y x0 z y1)
  · exact z
  · exact absurd (show T (j + y) = T (j + x) by omega) (h.2 y x y0 z x1)⟩
theorem readBoth {q : Nat} (hq : isR q) {n : Int} {T : Int → Int} (n0 : 0 ≤ n) (n20 : n ≤ 20) (tb : ∀ j, 0 ≤ j → j < n → 0 ≤ T j ∧ T j < 256) {σ1 τ0 : Sg} {d d2 : Nat} (hC : CT 0 n T σ1) (e54 : σ1.1 5 4 = zI 0) (hM : MT 0 n T τ0) (e8 : τ0.1 102 8 = zI 0) (e9 : τ0.1 102 9 = zI n) : ∃ v k : Int, -100000 < v ∧ (v < 0 ∨ v = 0 ∧ 2 ≤ k ∧ k ≤ 6 ∧ onN k (fun x => T x - 97) ∧ onN k (fun x => T (k + 1 + x) - 97)) ∧
    (∃ σ', f_Rule_read (d + 4) q σ1 = rI (zI v) σ' ∧ Fr (SRk q) σ1 σ' ∧ (v = 0 → σ'.1 q 0 = zI k ∧ ∀ x, 0 ≤ x → x < k → σ'.1 (q + 1) x.toNat = zI (T x - 97) ∧ σ'.1 (q + 3) x.toNat = zI (T (k + 1 + x) - 97) ∧ σ'.1 (q + 2) (T x - 97).toNat = zI x ∧ σ'.1 (q + 4) (T (k + 1 + x) - 97).toNat = zI x)) ∧
    ∃ τ', (∀ Fl Ok : Sg → Rs, (cI (f_M_readsWives (d2 + 4) τ0) fun v5 σ4 => if v5 = 0 then Fl σ4 else cI (f_M_readsChildren (d2 + 4) σ4) fun v9 σ8 => if v9 = 0 then Fl σ8 else Ok σ8) = if v < 0 then Fl τ' else Ok τ') ∧ Fr SMk τ0 τ' ∧ (v < 0 → τ'.1 102 10 = zI v) ∧ (v = 0 → τ'.1 102 32 = zI k ∧ ∀ x, 0 ≤ x → x < k → τ'.1 122 x.toNat = zI (T x - 97) ∧ τ'.1 123 x.toNat = zI (T (k + 1 + x) - 97)) := by
  obtain ⟨v, k, v0, v1, hN, hR⟩ := wivesBoth hq n0 n20 tb (σ0 := σ1) (τ0 := τ0) (d := d) (d2 := d2) 7 0 rfl (by decide) n0 ⟨fun x x0 x1 => by omega, fun x y x0 xy y1 => by omega⟩
  obtain ⟨σ2, a1, a2, a3⟩ := hN σ1 (zI 0) .null (Fr.rf _ _) ⟨hC, e54, fun x x0 x1 => by omega⟩ (fun y y0 y1 => by rw [gb_0]; exact ⟨fun z => absurd z Bool.false_ne_true, fun ⟨x, x0, x1, _⟩ => by omega⟩)
  obtain ⟨τ2, b1, b2, b3, b4⟩ := hR (sI τ0 102 32 (zI 0)) .null ((Fr.rf _ _).sI _ rfl) ⟨fun j j0 j1 => by rw [sI_row _ _ _ _ _ (by decide)]; exact hM j j0 j1, (sI_slot _ _ _ _ (by decide)).trans e8, (sI_slot _ _ _ _ (by decide)).trans e9, fun x x0 x1 => by omega⟩ (sI_same _ _ _ _)
  have kz : (zI v = 0) = (v = 0) := by rw [zI_0]; exact zI_eq (by omega) (by decide)
  have rN : f_Rule_read (d + 4) q σ1 = if v = 0 then (cI (f_Rule_readChildren (d + 3) q σ2) fun v4 σ3 => if v4 = 0 then (cV (f_Rule_turnRound (d + 3) q σ3) fun σ5 => rI v4 σ5) else rI v4 σ3) else rI (zI v) σ2 := by
    have a1 : f_Rule_readWives_4 (d + 2) q (zI 0) (zI 0) .null σ1 = rI (zI v) σ2 := a1
    rw [f_Rule_read_eq, gdK_of hq.s0, f_Rule_readWives_eq, zI_0, a1, cI_rI, gdK_of hq.s0]
    simp only [gdK_of hq.s0, ← zI_0]
    by_cases z : v = 0
    · rw [if_pos (by rw [kz]; exact z), if_pos z]
    · rw [if_neg (by rw [kz]; exact z), if_neg (by rw [kz]; exact z), if_neg z]
  have rM : ∀ Fl Ok : Sg → Rs, (cI (f_M_readsWives (d2 + 4) τ0) fun v5 σ4 => if v5 = 0 then Fl σ4 else cI (f_M_readsChildren (d2 + 4) σ4) fun v9 σ8 => if v9 = 0 then Fl σ8 else Ok σ8) = if v = 0 then (cI (f_M_readsChildren (d2 + 4) τ2) fun v9 σ8 => if v9 = 0 then Fl σ8 else Ok σ8) else Fl τ2 := fun Fl Ok => by
    have b1 : f_M_readsWives_5 (d2 + 3) .null (sI τ0 102 32 (zI 0)) = rI (bz (decide (v = 0))) τ2 := b1
    rw [f_M_readsWives_eq, zI_0]
    dsimp only
    rw [b1, cI_rI]
    by_cases z : v = 0
    · rw [decide_eq_true z, bz_tt, if_neg (by decide), if_pos z]
    · rw [decide_eq_false z, bz_ff, if_pos rfl, if_neg z]
  rcases v1 with v1 | ⟨v1, k2, k6, kn, hn, hl⟩
  · refine ⟨v, k, v0, Or.inl v1, ⟨σ2, by rw [rN, if_neg (by omega)], a2, fun e => by omega⟩, τ2, fun Fl Ok => by rw [rM, if_neg (by omega), if_pos v1], b2, b3, fun e => by omega⟩
  · obtain ⟨c1, c2, c3, c4⟩ := a3 v1
    obtain ⟨d1, d2', d3, d4, d5⟩ := b4 v1
    obtain ⟨u, u0, u1, hN2, hR2⟩ := childrenBoth hq n0 n20 (show 0 ≤ k by omega) k6 tb (σ0 := σ2) (τ0 := τ2) (d := d) (d2 := d2) k.toNat 0 (by omega) (by decide) (by omega) ⟨fun x x0 x1 => by omega, fun x y x0 xy y1 => by omega⟩ (fun x x0 x1 => by omega)
    obtain ⟨σ3, f1, f2, f3⟩ := hN2 σ2 (zI 0) .null (Fr.rf _ _) ⟨c3, by rw [c2]; exact congrArg zI (by omega), fun x x0 x1 => by omega⟩ c1 (fun y y0 y1 => by rw [gb_0]; exact ⟨fun z => absurd z Bool.false_ne_true, fun ⟨x, x0, x1, _⟩ => by omega⟩)
    obtain ⟨τ3, g1, g2, g3, g4⟩ := hR2 τ2 (Fr.rf _ _) ⟨d4, by rw [d2']; exact congrArg zI (by omega), d3, fun x x0 x1 => by omega⟩ d1
    have uz : (zI u = 0) = (u = 0) := by rw [zI_0]; exact zI_eq (by omega) (by decide)
    have rN2 : f_Rule_read (d + 4) q σ1 = if u = 0 then (cV (f_Rule_turnRound (d + 3) q σ3) fun σ5 => rI (zI u) σ5) else rI (zI u) σ3 := by
      have f1 : f_Rule_readChildren_4 (d + 2) q (zI 0) (zI 0) .null σ2 = rI (zI u) σ3 := f1
      rw [rN, if_pos v1, f_Rule_readChildren_eq, zI_0, f1, cI_rI, ← zI_0]
      by_cases z : u = 0
      · rw [if_pos (by rw [uz]; exact z), if_pos z]
      · rw [if_neg (by rw [uz]; exact z), if_neg z]
    have rM2 : ∀ Fl Ok : Sg → Rs, (cI (f_M_readsWives (d2 + 4) τ0) fun v5 σ4 => if v5 = 0 then Fl σ4 else cI (f_M_readsChildren (d2 + 4) σ4) fun v9 σ8 => if v9 = 0 then Fl σ8 else Ok σ8) = if u = 0 then Ok τ3 else Fl τ3 := fun Fl Ok => by
      have g1 : f_M_readsChildren_2 (d2 + 3) (zI 0) τ2 = rI (bz (decide (u = 0))) τ3 := g1
      rw [rM, if_pos v1, f_M_readsChildren_eq, zI_0, g1, cI_rI]
      by_cases z : u = 0
      · rw [decide_eq_true z, bz_tt, if_neg (by decide), if_pos z]
      · rw [decide_eq_false z, bz_ff, if_pos rfl, if_neg z]
    have F3 : Fr (SRk q) σ1 σ3 := a2.tr (f2.mono fun a k e => by
      simp only [SRk, SRh, Bool.or_eq_false_iff] at e ⊢; exact ⟨e.1.1.2, e.2⟩)
    have G3 : Fr SMk τ0 τ3 := b2.tr (g2.mono fun a k e => by
      simp only [SMk, SMh, Bool.or_eq_false_iff, Bool.and_eq_false_iff] at e ⊢
      refine ⟨e.1.2, ?_⟩
      rcases e.2 with e | e
      · exact Or.inl e
      · exact Or.inr ⟨e.1.1.1.1.1, e.1.1.1.2⟩)
    rcases u1 with u1 | ⟨u1, hn2, hl2⟩
    · refine ⟨u, k, u0, Or.inl u1, ⟨σ3, by rw [rN2, if_neg (by omega)], F3, fun e => by omega⟩, τ3, fun Fl Ok => by rw [rM2, if_neg (by omega), if_pos u1], G3, g3, fun e => by omega⟩
    · have oW : onN k (fun x => T x - 97) := by
        have := hn.on (by intro x x0 x1; rw [Int.zero_add]; exact hl x x0 x1)
        simp only [Int.zero_add] at this
        exact this
      have oC := hn2.on hl2
      have rw1 : ∀ x : Int, 0 ≤ x → x < k → σ3.1 (q + 1) x.toNat = zI (T x - 97) := fun x x0 x1 => by
        rw [f2.2 (q + 1) _ (by have hq' : q = 7 ∨ q = 12 := hq; simp [SRh]; omega)]; exact c4 x x0 x1
      have e0 : σ3.1 q 0 = zI k := by rw [f2.2 q 0 (by simp [SRh])]; exact c1
      obtain ⟨σ4, t1, t2, t3⟩ := turnRound_sp (d := d + 2) hq (by omega) k6 e0 oW oC rw1 (f3 u1)
      refine ⟨u, k, u0, Or.inr ⟨u1, k2, k6, oW, oC⟩, ⟨σ4, ?_, F3.tr (t2.mono fun a k e => ?_), fun _ => ⟨?_, fun x x0 x1 => ⟨?_, ?_, (t3 x x0 x1).1, (t3 x x0 x1).2⟩⟩⟩, τ3, fun Fl Ok => by rw [rM2, if_pos u1, if_neg (by omega)], G3, g3, fun _ => ⟨?_, fun x x0 x1 => ⟨?_, g4 u1 x x0 x1⟩⟩⟩
      · have t1 : f_Rule_turnRound (d + 3) q σ3 = rV σ4 := t1
        rw [rN2, if_pos u1, t1, cV_rV]
      · simp only [SRk, Bool.or_eq_false_iff] at e ⊢; exact ⟨e.1.1.1.2, e.1.2⟩
      · rw [t2.2 q 0 (by simp)]; exact e0
      · rw [t2.2 (q + 1) _ (by simp)]; exact rw1 x x0 x1
      · rw [t2.2 (q + 3) _ (by simp)]; exact f3 u1 x x0 x1
      · rw [g2.2 102 32 rfl]; exact d1
      · rw [g2.2 122 _ rfl]; exact d5 x x0 x1
