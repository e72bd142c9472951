theorem fill70_sp {σ : Sg} {d : Nat} {hi : Int} (h0 : 0 ≤ hi) (h1 : hi ≤ 720) : ∃ σ', f_Arrays_fill_4I (d + 2) 70 (zI 0) (zI hi) (zI 0) σ = rV σ' ∧ Fr (fun b _ => b == 70) σ σ' ∧ ∀ j : Nat, (j : Int) < hi → σ'.1 70 j = zI 0 := by
  have main : ∀ (k : Nat) (i : Int) (v : Value) (τ : Sg), i + k = hi → 0 ≤ i → Fr (fun b _ => b == 70) σ τ → (∀ j : Nat, (j : Int) < i → τ.1 70 j = zI 0) → ∃ σ', f_Arrays_fill_4I_10 (d + 1) 70 v (zI hi) (zI 0) (zI i) τ = rV σ' ∧ Fr (fun b _ => b == 70) σ σ' ∧ ∀ j : Nat, (j : Int) < hi → σ'.1 70 j = zI 0 := by
    intro k
    induction k with
    | zero =>
      intro i v τ hk i0 F hτ
      have : i = hi := by omega
      subst this
      exact ⟨τ, by rw [f_Arrays_fill_4I_10_eq, if_neg Int32.lt_irrefl], F, hτ⟩
    | succ k ih =>
      intro i v τ hk i0 F hτ
      obtain ⟨σ', a1, a2⟩ := ih (i + 1) v (sI τ 70 i.toNat (zI 0)) (by omega) (by omega) (F.sI _ rfl) fun j j1 => by
        by_cases q : j = i.toNat
        · subst q; rw [sI_same]
        · rw [sI_slot _ _ _ _ q]; exact hτ j (by omega)
      refine ⟨σ', ?_, a2⟩
      rw [f_Arrays_fill_4I_10_eq, if_pos (by rw [zI_le (by omega) (by omega)]; omega), stI_70 i0 (by omega), show (1 : Int32) = zI 1 from zI_lit 1, zI_add]
      exact a1
  obtain ⟨σ', a1, a2⟩ := main hi.toNat 0 (.int (zI 0)) σ (by omega) (by decide) (Fr.rf _ _) fun j j1 => by omega
  refine ⟨σ', ?_, a2⟩
  rw [f_Arrays_fill_4I_eq, show ∀ K : Int32 → Rs, aln 70 K = K (zI 720) from fun K => rfl, f_Arrays_rangeCheck_eq, if_neg (by rw [zI_le (by omega) (by decide)]; omega), zI_0, if_neg (by decide), if_neg (by rw [zI_le (by decide) (by omega)]; omega), cV_rV]
  exact a1
def SCz (a k : Nat) : Bool := a == 70 || a == 71 || a == 72 || a == 73 || (a == 69 && k == 5)
theorem nr_id {n : Int} (n2 : 2 ≤ n) (n6 : n ≤ 6) : nr n (fun x => x) = 0 := by
  unfold nr
  rcases (show n.toNat = 2 ∨ n.toNat = 3 ∨ n.toNat = 4 ∨ n.toNat = 5 ∨ n.toNat = 6 by omega) with e | e | e | e | e <;> rw [e] <;> decide +kernel
theorem size_spg {σ : Sg} {r : Nat} {n most : Int} (hr : RuleAt σ r n) (n2 : 2 ≤ n) (m0 : 2 ≤ most) (m1 : most ≤ 1000) {W C : Int → Int} (hWW : EqN n (rd σ (r + 1)) W) (hCC : EqN n (rd σ (r + 3)) C) {d : Nat} : ∃ (σ' : Sg) (k : Nat), f_Changes_size (d + 3) r (zI most) σ = rI (zI (((bst n W C k).2 : Nat) : Int)) σ' ∧ Fr SCz σ σ' ∧ (∀ j, j < k → j < (bst n W C j).2) ∧ ((bst n W C k).2 ≤ k ∨ most ≤ (bst n W C k).2) := by
  have n6 := hr.2.2.1
  have hW0 : onN n (rd σ (r + 1)) := ⟨fun x h0 h1 => by have := hr.2.2.2 x h0 h1; omega, fun x y x0 x1 y0 y1 e => by rw [← (hr.2.2.2 x x0 x1).1.2.2.2.2.1, ← (hr.2.2.2 y y0 y1).1.2.2.2.2.1, e]⟩
  have hC0 : onN n (rd σ (r + 3)) := ⟨fun x h0 h1 => by have := hr.2.2.2 x h0 h1; omega, fun x y x0 x1 y0 y1 e => by rw [← (hr.2.2.2 x x0 x1).2.2.2.2.2.1, ← (hr.2.2.2 y y0 y1).2.2.2.2.2.1, e]⟩
  have hW : onN n W := ⟨fun x h0 h1 => by rw [← hWW x h0 h1]; exact hW0.1 x h0 h1, fun x y x0 x1 y0 y1 e => hW0.2 x y x0 x1 y0 y1 (by rw [hWW x x0 x1, hWW y y0 y1]; exact e)⟩
  have hC : onN n C := ⟨fun x h0 h1 => by rw [← hCC x h0 h1]; exact hC0.1 x h0 h1, fun x y x0 x1 y0 y1 e => hC0.2 x y x0 x1 y0 y1 (by rw [hCC x x0 x1, hCC y y0 y1]; exact e)⟩
  have fb := fac_bd n.toNat (by omega)
  have hS : ∀ k, SCz r k = false ∧ SCz (r + 1) k = false ∧ SCz (r + 2) k = false ∧ SCz (r + 3) k = false ∧ SCz (r + 4) k = false := by
    intro k; rcases hr.1 with rfl | rfl <;> exact ⟨rfl, rfl, rfl, rfl, rfl⟩
  have e0 : ∀ τ, Fr SCz σ τ → τ.1 r 0 = zI n := fun τ F => by rw [F.2 _ _ (hS 0).1, rd_k]; exact congrArg zI hr.2.1
  have eW : ∀ τ, Fr SCz σ τ → ∀ x, 0 ≤ x → x < n → τ.1 (r + 1) x.toNat = zI (W x) := fun τ F x x0 x1 => by rw [F.2 _ _ (hS _).2.1, rd_k, toNat_c x0, hWW x x0 x1]
  have eC : ∀ τ, Fr SCz σ τ → ∀ x, 0 ≤ x → x < n → τ.1 (r + 3) x.toNat = zI (C x) := fun τ F x x0 x1 => by rw [F.2 _ _ (hS _).2.2.2.1, rd_k, toNat_c x0, hCC x x0 x1]
  have r73 : r + 1 ≠ 73 ∧ r + 3 ≠ 73 := by rcases hr.1 with rfl | rfl <;> decide
  have loop : ∀ (b k : Nat) (τ : Sg), k + b = 720 → Fr SCz σ τ → CB n (bst n W C k) τ → (∀ j, j < k → j < (bst n W C j).2) → ∃ (σ' : Sg) (K : Nat), f_Changes_size_38 (d + 2) r (zI most) (zI (k : Int)) τ = rI (zI (((bst n W C K).2 : Nat) : Int)) σ' ∧ Fr SCz σ σ' ∧ (∀ j, j < K → j < (bst n W C j).2) ∧ ((bst n W C K).2 ≤ K ∨ most ≤ (bst n W C K).2) := by
    intro b
    induction b with
    | zero =>
      intro k τ hk F hb hj
      have ok := bst_ok hW hC k hj
      have le := ok.le n2 n6
      refine ⟨τ, k, ?_, F, hj, Or.inl (by omega)⟩
      rw [f_Changes_size_38_eq, show (720 : Int32) = zI 720 from zI_lit 720, if_neg (by rw [zI_le (by omega) (by decide)]; omega), hb.1]
    | succ b ih =>
      intro k τ hk F hb hj
      have ok := bst_ok hW hC k hj
      have le := ok.le n2 n6
      have b1 := hb.1
      by_cases z : k < (bst n W C k).2
      · by_cases z2 : ((bst n W C k).2 : Int) < most
        · have hk' := ok.2.1 k z
          have nk := nr_ok n2 n6 hk'
          obtain ⟨τ1, a1, F1, a2⟩ := unpack_sp (σ := τ) (d := d) (a := 72) rfl n2 n6 (num := nr n ((bst n W C k).1 k)) (by omega) hk' nk.2
          have F01 : Fr SCz σ τ1 := F.tr (F1.mono fun a j e => by simp only [SCz, Bool.or_eq_false_iff] at e; exact e.1.1.2)
          have cb1 : CB n (bst n W C k) τ1 := hb.fr F1 rfl (fun _ => rfl) (fun _ => rfl)
          obtain ⟨τ2, c1, F2, cb2⟩ := reach_sp (σ := τ1) (d := d) hr.1.s1 r73.1 n2 n6 ok cb1 hk' hW a2 (eW τ1 F01)
          have up : ∀ {τ υ : Sg}, Fr SCh τ υ → Fr SCz τ υ := fun F => F.mono fun a j e => by
            simp only [SCz, Bool.or_eq_false_iff] at e
            simp only [SCh, Bool.or_eq_false_iff]; exact ⟨⟨⟨e.1.1.1.1, e.1.1.1.2⟩, e.1.2⟩, e.2⟩
          have F02 := F01.tr (up F2)
          have ok2 := addq_ok ok (onN_comp hW hk')
          obtain ⟨τ3, g1, F3, cb3⟩ := reach_sp (σ := τ2) (d := d) hr.1.s3 r73.2 n2 n6 ok2 cb2 hk' hC (fun x x0 x1 => (F2.2 _ _ rfl).trans (a2 x x0 x1)) (eC τ2 F02)
          have F03 := F02.tr (up F3)
          obtain ⟨σ', K, y1, y2⟩ := ih (k + 1) τ3 (by omega) F03 cb3 fun j hj' => by
            by_cases q : j = k
            · subst q; exact z
            · exact hj j (by omega)
          refine ⟨σ', K, ?_, y2⟩
          rw [f_Changes_size_38_eq, show (720 : Int32) = zI 720 from zI_lit 720, if_pos (by rw [zI_le (by omega) (by decide)]; omega), b1, if_pos (by rw [zI_le (by omega) (by omega)]; omega), if_pos (by rw [zI_le (by omega) (by omega)]; exact z2), bnd_zI (by omega) (by omega) (by omega), ix_zI (by omega) (by omega), Int.toNat_natCast, gfI_of hr.1.s0, e0 τ F, hb.2.1 k z, a1, cV_rV, gfS_of hr.1.s0, gfI_of hr.1.s0, e0 τ1 F01, ofs_6_1, c1, cV_rV, gfS_of hr.1.s0, gfI_of hr.1.s0, e0 τ2 F02, ofs_6_3, g1, cV_rV, show (1 : Int32) = zI 1 from zI_lit 1, zI_add]
          exact y1
        · refine ⟨τ, k, ?_, F, hj, Or.inr (by omega)⟩
          rw [f_Changes_size_38_eq, show (720 : Int32) = zI 720 from zI_lit 720, if_pos (by rw [zI_le (by omega) (by decide)]; omega), b1, if_pos (by rw [zI_le (by omega) (by omega)]; omega), if_neg (by rw [zI_le (by omega) (by omega)]; exact z2)]
      · refine ⟨τ, k, ?_, F, hj, Or.inl (by omega)⟩
        rw [f_Changes_size_38_eq, show (720 : Int32) = zI 720 from zI_lit 720, if_pos (by rw [zI_le (by omega) (by decide)]; omega), b1, if_neg (by rw [zI_le (by omega) (by omega)]; omega)]
  obtain ⟨τ1, a1, F1, a2⟩ := fill70_sp (σ := σ) (d := d) (hi := ((fac n.toNat : Nat) : Int)) (by omega) (by omega)
  have F1' : Fr SCz σ τ1 := F1.mono fun a j e => by simp only [SCz, Bool.or_eq_false_iff] at e; exact e.1.1.1.1
  have cb : CB n (bst n W C 0) (sI (sI (sI τ1 70 0 (zI 1)) 71 0 (zI 0)) 69 5 (zI 1)) := by
    refine ⟨sI_same _ _ _ _, fun j hj => ?_, fun v hv => ?_⟩
    · have hj : j < 1 := hj
      have : j = 0 := by omega
      subst this
      rw [sI_row _ _ _ _ _ (by decide), sI_same]
      exact congrArg (fun v : Nat => zI (v : Int)) (nr_id n2 n6).symm
    · rw [sI_row _ _ _ _ _ (by decide), sI_row _ _ _ _ _ (by decide)]
      by_cases z : v = 0
      · subst z
        exact Or.inl ⟨sI_same _ _ _ _, 0, Nat.one_pos, nr_id n2 n6⟩
      · rw [sI_slot _ _ _ _ z]
        refine Or.inr ⟨a2 v (by omega), fun ⟨j, j1, j2⟩ => z ?_⟩
        rw [← j2]; exact nr_id n2 n6
  obtain ⟨σ', K, y1, y2⟩ := loop 720 0 _ (by decide) (((F1'.sI _ rfl).sI _ rfl).sI _ rfl) cb (fun j hj => by omega)
  refine ⟨σ', K, ?_, y2⟩
  rw [f_Changes_size_eq, gfI_of hr.1.s0, e0 σ (Fr.rf _ _), bnd_zI (by omega) (by omega) (by omega), ix_zI (by omega) (by omega), FC_fac _ (by omega), zI_0, a1, cV_rV, bnd_zI (by decide) (by decide) (by decide), bnd_zI (by decide) (by decide) (by decide)]
  exact y1
theorem size_sp {σ : Sg} {r : Nat} {n most : Int} (hr : RuleAt σ r n) (n2 : 2 ≤ n) (m0 : 2 ≤ most) (m1 : most ≤ 1000) {d : Nat} : ∃ (σ' : Sg) (k : Nat), f_Changes_size (d + 3) r (zI most) σ = rI (zI (((bst n (rd σ (r + 1)) (rd σ (r + 3)) k).2 : Nat) : Int)) σ' ∧ Fr SCz σ σ' ∧ (∀ j, j < k → j < (bst n (rd σ (r + 1)) (rd σ (r + 3)) j).2) ∧ ((bst n (rd σ (r + 1)) (rd σ (r + 3)) k).2 ≤ k ∨ most ≤ (bst n (rd σ (r + 1)) (rd σ (r + 3)) k).2) := size_spg hr n2 m0 m1 (fun _ _ _ => rfl) (fun _ _ _ => rfl)
