theorem genM_sp {σ : Sg} {r p : Nat} (h : IRoll r p σ) (n6 : rd σ r 0 ≤ 6) {d : Nat} {x : Int} (x0 : 0 ≤ x) (x1 : x < rd σ p 0) : ∃ σ', f_M_generationOf (d + 2) (zI x) σ = rI (zI (lev (rd σ (p + 3)) (rd σ (p + 4)) x)) σ' ∧ Fr (fun a _ => a == 153) σ σ' := by
  obtain ⟨m0, m24, ok⟩ := h.1
  have hl : ∀ e, 0 ≤ e → e < rd σ p 0 → (0 ≤ rd σ (p + 3) e → rd σ (p + 3) e < e) ∧ (0 ≤ rd σ (p + 4) e → rd σ (p + 4) e < e) := fun e e0 e1 => by
    obtain ⟨-, -, -, df, dg, -⟩ := ok e e0 e1
    omega
  have lb : ∀ e, 0 ≤ e → e < rd σ p 0 → 0 ≤ lev (rd σ (p + 3)) (rd σ (p + 4)) e ∧ lev (rd σ (p + 3)) (rd σ (p + 4)) e ≤ e := fun e e0 e1 => lev_bd m24 hl 24 e e0 e1 (by omega)
  have le := @lev_eq (rd σ (p + 3)) (rd σ (p + 4)) (rd σ p 0) m24 hl
  generalize hL : lev (rd σ (p + 3)) (rd σ (p + 4)) = L at lb le ⊢
  have main : ∀ (k : Nat) (e : Int) (v : Value) (τ : Sg), e + k = x + 1 → 0 ≤ e → Fr (fun a _ => a == 153) σ τ → (∀ z : Int, 0 ≤ z → z < e → τ.1 153 z.toNat = zI (L z)) → ∃ σ', f_M_generationOf_2 (d + 1) (zI x) (zI e) v τ = rI (zI (L x)) σ' ∧ Fr (fun a _ => a == 153) σ σ' := by
    intro k
    induction k with
    | zero =>
      intro e v τ hk e0 F hz
      have lt : zI x < zI e := by rw [zI_le (by omega) (by omega)]; omega
      refine ⟨τ, ?_, F⟩
      rw [f_M_generationOf_2_eq, if_pos lt, bnd_zI x0 (by omega) (by omega), ix_zI x0 (by omega), hz x x0 (by omega)]
    | succ k ih =>
      intro e v τ hk e0 F hz
      have e1 : e < rd σ p 0 := by omega
      obtain ⟨-, -, f1, g1, -⟩ := h.m.2 e e0 e1
      obtain ⟨-, -, bf, bg, -⟩ := h.1.bd n6 e0 e1
      have f1 : τ.1 144 e.toNat = zI (rd σ (p + 3) e) := (F.2 _ _ rfl).trans f1
      have g1 : τ.1 145 e.toNat = zI (rd σ (p + 4) e) := (F.2 _ _ rfl).trans g1
      have nlt : ¬ zI x < zI e := by rw [zI_le (by omega) (by omega)]; omega
      obtain ⟨hf, hg⟩ := hl e e0 e1
      have lee := le e0 e1
      have c1 : (zI (rd σ (p + 3) e) = zI (-1)) = (rd σ (p + 3) e = -1) := zI_eq (by omega) (by decide)
      have c2 : (zI (rd σ (p + 4) e) = zI (-1)) = (rd σ (p + 4) e = -1) := zI_eq (by omega) (by decide)
      have ie : zI e + zI 1 = zI (e + 1) := zI_add _ _
      have fin : ∀ w : Int, w = L e → ∃ σ', f_M_generationOf_2 (d + 1) (zI x) (zI (e + 1)) (.int (zI w)) (sI τ 153 e.toNat (zI w)) = rI (zI (L x)) σ' ∧ Fr (fun a _ => a == 153) σ σ' := fun w hw => by
        refine ih (e + 1) _ _ (by omega) (by omega) (F.sI _ rfl) fun z z0 z1 => ?_
        by_cases q : z = e
        · subst q; rw [sI_same, hw]
        · rw [sI_slot _ _ _ _ (by omega)]; exact hz z z0 (by omega)
      have lf : 0 ≤ rd σ (p + 3) e → τ.1 153 (rd σ (p + 3) e).toNat = zI (L (rd σ (p + 3) e)) ∧ 0 ≤ L (rd σ (p + 3) e) ∧ L (rd σ (p + 3) e) < 100 := fun q => by
        have := hf q; have := lb _ q (by omega)
        exact ⟨hz _ q (by omega), by omega, by omega⟩
      have lg : 0 ≤ rd σ (p + 4) e → τ.1 153 (rd σ (p + 4) e).toNat = zI (L (rd σ (p + 4) e)) ∧ 0 ≤ L (rd σ (p + 4) e) ∧ L (rd σ (p + 4) e) < 100 := fun q => by
        have := hg q; have := lb _ q (by omega)
        exact ⟨hz _ q (by omega), by omega, by omega⟩
      rw [f_M_generationOf_2_eq, if_neg nlt]
      simp only [zI_neg, Int.reduceNeg, show (1 : Int32) = zI 1 from zI_lit 1, zI_0, bnd_zI e0 (show e < (24 : Nat) by omega) (by omega), ix_zI e0 (show e < 2147483648 by omega), f1, g1, c1, c2, ie]
      by_cases q1 : rd σ (p + 3) e = -1
      · rw [if_pos q1]
        rw [if_neg (by omega)] at lee
        by_cases q2 : rd σ (p + 4) e = -1
        · rw [if_pos q2]
          rw [if_neg (by omega)] at lee
          exact fin 0 (by omega)
        · rw [if_neg q2]
          rw [if_pos (by omega)] at lee
          obtain ⟨y1, y2, y3⟩ := lg (by omega)
          rw [bnd_zI (by omega) (by omega) (by omega), ix_zI (by omega) (by omega), y1, zI_add, maxM_sp (by decide) (by omega), cI_rI]
          exact fin _ (by omega)
      · rw [if_neg q1]
        rw [if_pos (by omega)] at lee
        obtain ⟨y1, y2, y3⟩ := lf (by omega)
        rw [bnd_zI (by omega) (by omega) (by omega), ix_zI (by omega) (by omega), y1, zI_add, maxM_sp (by decide) (by omega), cI_rI]
        rw [g1]
        by_cases q2 : rd σ (p + 4) e = -1
        · rw [if_pos (congrArg zI q2)]
          rw [if_neg (by omega)] at lee
          exact fin _ (by omega)
        · rw [if_neg (by rw [c2]; exact q2)]
          rw [if_pos (show 0 ≤ rd σ (p + 4) e by omega)] at lee
          obtain ⟨z1, z2, z3⟩ := lg (by omega)
          rw [bnd_zI (by omega) (by omega) (by omega), ix_zI (by omega) (by omega), z1, zI_add, maxM_sp (by omega) (by omega), cI_rI]
          exact fin _ (by omega)
  rw [f_M_generationOf_eq, zI_0]
  exact main (x + 1).toNat 0 .null σ (by omega) (by decide) (Fr.rf _ _) fun z z0 z1 => by omega
theorem c_line {σ : Sg} {r p l : Nat} (h : Inv r p l σ) (x a : Int32) : Same (f_N_line 100 x a) (f_M_line 100 x a) σ := by
  obtain ⟨x, rfl, hx⟩ := zI_ex x
  obtain ⟨a, rfl, ha⟩ := zI_ex a
  obtain ⟨n1, n2, n3, n4⟩ := h.n
  have q3 : σ.2.2 4 3 = p := h.1.2.2.2.2.2.1
  have hP := h.1.2.1
  have hro := h.2.2.2.1
  obtain ⟨m0, m24, ok⟩ := hro.1
  have iN := has_sp (σ := σ) hP.s0 rfl ⟨m0, m24⟩ (d := 98) hx
  have iM := isPersonM_sp (σ := σ) (n := rd σ p 0) hro.2.1 ⟨m0, m24⟩ (d := 97) hx
  have em : σ.1 102 69 = zI (rd σ p 0) := (rd_k σ 102 69).trans (congrArg zI hro.2.1)
  have z0 : (zI a = 0) = (a = 0) := by rw [zI_0]; exact zI_eq ha (by decide)
  have z1 : (zI a = 1) = (a = 1) := by rw [show (1 : Int32) = zI 1 from zI_lit 1]; exact zI_eq ha (by decide)
  have z2 : (zI a = 2) = (a = 2) := by rw [show (2 : Int32) = zI 2 from zI_lit 2]; exact zI_eq ha (by decide)
  have hb := h.bits
  by_cases q : 0 ≤ x ∧ x < rd σ p 0
  · have bits : ∀ A : Int32, (∀ y, rd σ p 0 ≤ y → y < 32 → gb A y = false) → f_Integer_bitCount 99 A σ = rI (zI (cnt (gb A) 24)) σ ∧ f_M_bits 99 A σ = rI (zI (cnt (gb A) 24)) σ := fun A hA => ⟨bitCount_sp (d := 98) fun k k0 k1 => hA k (by omega) k1, bits_sp (d := 98)⟩
    by_cases a0 : a = 0
    · obtain ⟨A, eA, hA, hz⟩ := comeN_sp hro hP (d := 98) q.1 q.2
      obtain ⟨b1, b2⟩ := bits A hz
      have cm := comeM_sp (σ := σ) (d := 98) (m := rd σ p 0) (x := x) (w := 1) (nx := fun e => σ.1 (p + 6) e.toNat) (A := A) em m0 m24 q.1 q.2 (fun e s b v e0 e1 => by
        have ec := childrenOf_sp hro n3.2 (d := 97) e0 e1
        have ii : zI e + 1 = zI (e + 1) := by rw [zI_lit, zI_add]
        have cx : (zI e = zI x) = (e = x) := zI_eq (by omega) (by omega)
        rw [f_M_comeFrom_17_eq, em, if_pos (by rw [zI_le (by omega) (by omega)]; exact e1), ii]
        by_cases z : e = x
        · rw [if_pos (cx.mpr z), if_neg (by decide), ec, cI_rI, if_pos (Or.inl z)]
        · rw [if_neg (fun y => z (cx.mp y)), hasM_sp (by omega), cI_rI]
          cases g : gb b e with
          | true => rw [bz_tt, if_neg (by decide), if_neg (by decide), ec, cI_rI, if_pos (Or.inr rfl)]
          | false => rw [bz_ff, if_pos (by decide), if_neg (by rintro (y | y); exact z y; cases y)]) hA hz (fun y => y) (fun y y0 y1 => ⟨y0, by omega⟩) (fun e y e0 e1 y0 y1 g => by
        rw [(hro.2.2.2.1 e y e0 e1 y0 y1).1] at g
        have g := of_decide_eq_true g
        obtain ⟨-, -, -, df, dg, -⟩ := ok y y0 g.1
        omega)
      refine ⟨zI (cnt (gb A) 24), σ, σ, r, p, l, ?_, ?_, h⟩
      · rw [f_N_line_eq, q3, gdK_of hP.s0, iN, cI_rI, decide_eq_true q, bz_tt, if_neg (by decide), if_pos (z0.mpr a0), q3, gdK_of hP.s0, eA, cI_rI, b1, cI_rI]
      · rw [f_M_line_eq, iM, cI_rI, decide_eq_true q, bz_tt, if_neg (by decide), if_pos (z0.mpr a0), cm, cI_rI, b2, cI_rI]
    by_cases a1 : a = 1
    · obtain ⟨A, eA, hA, hz⟩ := aheadN_sp hro hP n3.2 (d := 97) q.1 q.2
      obtain ⟨b1, b2⟩ := bits A hz
      have cm := comeM_sp (σ := σ) (d := 98) (m := rd σ p 0) (x := x) (w := 0) (nx := par (rd σ (p + 3)) (rd σ (p + 4))) (A := A) em m0 m24 q.1 q.2 (fun e s b v e0 e1 => by
        obtain ⟨-, -, f1, g1, -⟩ := hro.m.2 e e0 e1
        obtain ⟨-, -, bf, bg, -⟩ := hro.1.bd n3.2 e0 e1
        have ii : zI e + 1 = zI (e + 1) := by rw [zI_lit, zI_add]
        have cx : (zI e = zI x) = (e = x) := zI_eq (by omega) (by omega)
        rw [f_M_comeFrom_17_eq, em, if_pos (by rw [zI_le (by omega) (by omega)]; exact e1), ii]
        by_cases z : e = x
        · rw [if_pos (cx.mpr z), if_pos rfl, bnd_zI e0 (by omega) (by omega), ix_zI e0 (by omega), f1, bitM_sp (by omega), cI_rI, bnd_zI e0 (by omega) (by omega), g1, bitM_sp (by omega), cI_rI, if_pos (Or.inl z)]; rfl
        · rw [if_neg (fun y => z (cx.mp y)), hasM_sp (by omega), cI_rI]
          cases g : gb b e with
          | true => rw [bz_tt, if_neg (by decide), if_pos rfl, bnd_zI e0 (by omega) (by omega), ix_zI e0 (by omega), f1, bitM_sp (by omega), cI_rI, bnd_zI e0 (by omega) (by omega), g1, bitM_sp (by omega), cI_rI, if_pos (Or.inr rfl)]; rfl
          | false => rw [bz_ff, if_pos (by decide), if_neg (by rintro (y | y); exact z y; cases y)]) hA hz (fun y => 23 - y) (fun y y0 y1 => ⟨by omega, by omega⟩) (fun e y e0 e1 y0 y1 g => by
        obtain ⟨-, -, bf, bg, -⟩ := hro.1.bd n3.2 e0 e1
        unfold par at g
        rw [gb_or, gb_bitF (by omega) y0 y1, gb_bitF (by omega) y0 y1, Bool.or_eq_true] at g
        obtain ⟨-, -, -, df, dg, -⟩ := ok e e0 e1
        rcases g with g | g <;> have g := of_decide_eq_true g <;> omega)
      refine ⟨zI (cnt (gb A) 24), σ, σ, r, p, l, ?_, ?_, h⟩
      · rw [f_N_line_eq, q3, gdK_of hP.s0, iN, cI_rI, decide_eq_true q, bz_tt, if_neg (by decide), if_neg (fun y => a0 (z0.mp y)), if_pos (z1.mpr a1), q3, gdK_of hP.s0, eA, cI_rI, b1, cI_rI]
      · rw [f_M_line_eq, iM, cI_rI, decide_eq_true q, bz_tt, if_neg (by decide), if_neg (fun y => a0 (z0.mp y)), if_pos (z1.mpr a1), cm, cI_rI, b2, cI_rI]
    by_cases a2 : a = 2
    · have eN := genN_sp hro hP n3.2 (d := 95) q.1 q.2
      obtain ⟨σ1, eM, F1⟩ := genM_sp hro n3.2 (d := 97) q.1 q.2
      refine ⟨zI (lev (rd σ (p + 3)) (rd σ (p + 4)) x), σ, σ1, r, p, l, ?_, ?_, h.scr F1 ?_ ?_ (by rcases hb.2.2 with rfl | rfl <;> rfl) (by rcases hb.2.2 with rfl | rfl <;> repeat (first | exact trivial | refine ⟨fun _ => rfl, ?_⟩ | refine ⟨rfl, ?_⟩)) ?_ ⟨rfl, rfl⟩⟩
      · rw [f_N_line_eq, q3, gdK_of hP.s0, iN, cI_rI, decide_eq_true q, bz_tt, if_neg (by decide), if_neg (fun y => a0 (z0.mp y)), if_neg (fun y => a1 (z1.mp y)), if_pos (z2.mpr a2), q3, gdK_of hP.s0, eN, cI_rI]
      · rw [f_M_line_eq, iM, cI_rI, decide_eq_true q, bz_tt, if_neg (by decide), if_neg (fun y => a0 (z0.mp y)), if_neg (fun y => a1 (z1.mp y)), if_pos (z2.mpr a2), eM, cI_rI]
      all_goals repeat (first | exact trivial | refine ⟨fun _ => rfl, ?_⟩ | refine ⟨rfl, ?_⟩)
    refine ⟨-1, σ, σ, r, p, l, ?_, ?_, h⟩
    · rw [f_N_line_eq, q3, gdK_of hP.s0, iN, cI_rI, decide_eq_true q, bz_tt, if_neg (by decide), if_neg (fun y => a0 (z0.mp y)), if_neg (fun y => a1 (z1.mp y)), if_neg (fun y => a2 (z2.mp y))]
    · rw [f_M_line_eq, iM, cI_rI, decide_eq_true q, bz_tt, if_neg (by decide), if_neg (fun y => a0 (z0.mp y)), if_neg (fun y => a1 (z1.mp y)), if_neg (fun y => a2 (z2.mp y))]
  · refine ⟨-1, σ, σ, r, p, l, ?_, ?_, h⟩
    · rw [f_N_line_eq, q3, gdK_of hP.s0, iN, cI_rI, decide_eq_false q, bz_ff, if_pos (by decide)]
    · rw [f_M_line_eq, iM, cI_rI, decide_eq_false q, bz_ff, if_pos (by decide)]
