/-! weddings: one gives way to another, in both -/
/-- a matching, but for one -/
def MtJ (m : Int) (S pt : Int → Int) (w : Int) : Prop := ∀ y, 0 ≤ y → y < m → y ≠ w → pt y = -1 ∨ 0 ≤ pt y ∧ pt y < m ∧ pt (pt y) = y ∧ S (pt y) ≠ S y ∧ pt y ≠ w
def mup (g : Int → Int) (a v : Int) : Int → Int := fun y => if y = a then v else g y
theorem mup_same (g : Int → Int) (a v : Int) : mup g a v a = v := if_pos rfl
theorem mup_ne {g : Int → Int} {a v y : Int} (h : y ≠ a) : mup g a v y = g y := if_neg h
theorem MtJ.step {m : Int} {S pt : Int → Int} {w x : Int} (h : MtJ m S pt w) (w0 : 0 ≤ w) (w1 : w < m) (x0 : 0 ≤ x) (x1 : x < m) (sw : S w = 1) (sx : S x = 0) : MtJ m S (mup (mup pt x w) w x) (pt x) := by
  have xw : x ≠ w := fun e => by rw [e] at sx; omega
  intro y y0 y1 ne
  have hx := h x x0 x1 xw
  by_cases e1 : y = w
  · subst e1
    rw [mup_same]
    refine Or.inr ⟨x0, x1, ?_, by omega, ?_⟩
    · rw [mup_ne xw, mup_same]
    · rcases hx with z | z
      · omega
      · exact fun e => z.2.2.2.1 (by rw [← e])
  · rw [mup_ne e1]
    by_cases e2 : y = x
    · subst e2
      rw [mup_same]
      refine Or.inr ⟨w0, w1, mup_same _ _ _, by omega, ?_⟩
      rcases hx with z | z
      · omega
      · exact Ne.symm z.2.2.2.2
    · rw [mup_ne e2]
      rcases h y y0 y1 e1 with z | ⟨z1, z2, z3, z4, z5⟩
      · exact Or.inl z
      · have p1 : pt y ≠ x := fun e => by rw [e] at z3; exact ne z3.symm
        refine Or.inr ⟨z1, z2, by rw [mup_ne z5, mup_ne p1]; exact z3, z4, fun e => ?_⟩
        rcases hx with u | ⟨u1, u2, u3, -⟩
        · omega
        · rw [← e, z3] at u3; exact e2 u3
/-- how the queue hangs together -/
def QuA (m : Int) (S pt ab : Int → Int) (q : Nat → Int) (many : Nat) : Prop := (∀ j, j < many → 0 ≤ q j ∧ q j < m ∧ S (q j) = 0) ∧ (∀ i j, i < j → j < many → q i ≠ q j) ∧ pt (q 0) = -1 ∧ ∀ j, 1 ≤ j → j < many → (0 ≤ pt (q j) ∧ pt (q j) < m ∧ S (pt (q j)) = 1) ∧ ∃ i, i < j ∧ ab (pt (q j)) = q i
def S84 (a _k : Nat) : Bool := a == 84
def S155 (a _k : Nat) : Bool := a == 155
theorem giveBoth {m : Int} {S pt ab : Int → Int} {q : Nat → Int} {many : Nat} (m24 : m ≤ 24) (hq : QuA m S pt ab q many) {d d2 : Nat} : ∀ (b j : Nat), j < b → j < many → ∀ (i : Nat) (w : Int) (cur : Int → Int), i + j < 24 → 0 ≤ w → w < m → S w = 1 → ab w = q j → MtJ m S cur w → (∀ i', i' ≤ j → cur (q i') = pt (q i')) → (∀ y, 0 ≤ y → y < m → S y = 0 → cur y ≠ -1 → pt y ≠ -1 ∨ y = q 0) → ∃ fin : Int → Int, MtJ m S fin (-1) ∧ (∀ y, 0 ≤ y → y < m → S y = 0 → fin y ≠ -1 → pt y ≠ -1 ∨ y = q 0) ∧
    (∀ (σ : Sg) (v x4 x5 : Value), (∀ y, 0 ≤ y → y < m → σ.1 84 y.toNat = zI (cur y)) → (∀ y, (y = w ∨ ∃ j, 1 ≤ j ∧ j < many ∧ y = pt (q j)) → σ.1 85 y.toNat = zI (ab y)) → ∃ σ', f_Matches_giveWay_4 d v (zI w) (zI (i : Int)) x4 x5 σ = rV σ' ∧ Fr S84 σ σ' ∧ ∀ y, 0 ≤ y → y < m → σ'.1 84 y.toNat = zI (fin y)) ∧
    (∀ (τ : Sg) (v x4 x5 : Value), (∀ y, 0 ≤ y → y < m → τ.1 155 y.toNat = zI (cur y)) → (∀ y, (y = w ∨ ∃ j, 1 ≤ j ∧ j < many ∧ y = pt (q j)) → τ.1 156 y.toNat = zI (ab y)) → ∃ τ', f_M_wedsBack_2 d2 (zI (q 0)) v (zI w) x4 x5 τ = rV τ' ∧ Fr S155 τ τ' ∧ ∀ y, 0 ≤ y → y < m → τ'.1 155 y.toNat = zI (fin y)) := by
  obtain ⟨q1, q2, q3, q4⟩ := hq
  intro b
  induction b with
  | zero => intro j hj; omega
  | succ b ih =>
    intro j _ jm i w cur ij w0 w1 sw aw hJ hc hN
    obtain ⟨x0, x1, sx⟩ := q1 j jm
    have cx := hc j (Nat.le_refl _)
    have xw : q j ≠ w := fun e => by rw [e] at sx; omega
    have hJ' := hJ.step w0 w1 x0 x1 sw sx
    have newN : ∀ y, 0 ≤ y → y < m → S y = 0 → mup (mup cur (q j) w) w (q j) y ≠ -1 → pt y ≠ -1 ∨ y = q 0 := fun y y0 y1 sy ne => by
      by_cases e1 : y = w
      · rw [e1] at sy; omega
      · rw [mup_ne e1] at ne
        by_cases e2 : y = q j
        · rcases Nat.eq_zero_or_pos j with z | z
          · subst z; exact Or.inr e2
          · have := (q4 j z jm).1.1
            rw [e2]; exact Or.inl (by omega)
        · rw [mup_ne e2] at ne; exact hN y y0 y1 sy ne
    have cellsC : ∀ (σ : Sg), (∀ y, 0 ≤ y → y < m → σ.1 84 y.toNat = zI (cur y)) → ∀ y, 0 ≤ y → y < m → (sI (sI σ 84 (q j).toNat (zI w)) 84 w.toNat (zI (q j))).1 84 y.toNat = zI (mup (mup cur (q j) w) w (q j) y) := fun σ h y y0 y1 => by
      by_cases e1 : y = w
      · subst e1; rw [sI_same, mup_same]
      · rw [sI_slot _ _ _ _ (by omega), mup_ne e1]
        by_cases e2 : y = q j
        · subst e2; rw [sI_same, mup_same]
        · rw [sI_slot _ _ _ _ (by omega), mup_ne e2]; exact h y y0 y1
    have cellsM : ∀ (σ : Sg), (∀ y, 0 ≤ y → y < m → σ.1 155 y.toNat = zI (cur y)) → ∀ y, 0 ≤ y → y < m → (sI (sI σ 155 (q j).toNat (zI w)) 155 w.toNat (zI (q j))).1 155 y.toNat = zI (mup (mup cur (q j) w) w (q j) y) := fun σ h y y0 y1 => by
      by_cases e1 : y = w
      · subst e1; rw [sI_same, mup_same]
      · rw [sI_slot _ _ _ _ (by omega), mup_ne e1]
        by_cases e2 : y = q j
        · subst e2; rw [sI_same, mup_same]
        · rw [sI_slot _ _ _ _ (by omega), mup_ne e2]; exact h y y0 y1
    have headC : ∀ (σ : Sg) (v x4 x5 : Value), (∀ y, 0 ≤ y → y < m → σ.1 84 y.toNat = zI (cur y)) → σ.1 85 w.toNat = zI (ab w) → f_Matches_giveWay_4 d v (zI w) (zI (i : Int)) x4 x5 σ = f_Matches_giveWay_4 d (nlg v) (zI (cur (q j))) (zI ((i + 1 : Nat) : Int)) (.int (zI (q j))) (.int (zI (cur (q j)))) (sI (sI σ 84 (q j).toNat (zI w)) 84 w.toNat (zI (q j))) := fun σ v x4 x5 h84 h85 => by
      rw [f_Matches_giveWay_4_eq, show (24 : Int32) = zI 24 from zI_lit 24, if_pos (by rw [zI_le (by omega) (by decide)]; omega), show (-1 : Int32) = zI (-1) from rfl, if_neg (by rw [zI_eq (by omega) (by decide)]; omega), bnd_zI w0 (by omega) (by omega), bnd_zI w0 (by omega) (by omega), ix_zI w0 (by omega), h85, aw, bnd_zI x0 (by omega) (by omega), bnd_zI x0 (by omega) (by omega), ix_zI x0 (by omega), h84 _ x0 x1, show (1 : Int32) = zI 1 from zI_lit 1, zI_add]
      rfl
    rcases Nat.eq_zero_or_pos j with z | z
    · subst z
      rw [q3] at cx
      rw [cx] at hJ'
      refine ⟨_, hJ', newN, fun σ v x4 x5 h84 h85 => ?_, fun τ v x4 x5 h155 h156 => ?_⟩
      · refine ⟨_, ?_, ((Fr.rf _ σ).sI _ rfl).sI _ rfl, cellsC σ h84⟩
        rw [headC σ v x4 x5 h84 (h85 w (Or.inl rfl)), f_Matches_giveWay_4_eq, cx, show (-1 : Int32) = zI (-1) from rfl, if_pos rfl]
        split <;> rfl
      · refine ⟨_, ?_, ((Fr.rf _ τ).sI _ rfl).sI _ rfl, cellsM τ h155⟩
        rw [f_M_wedsBack_2_eq, show (-1 : Int32) = zI (-1) from rfl, if_neg (by rw [zI_eq (by omega) (by decide)]; omega), bnd_zI w0 (by omega) (by omega), bnd_zI w0 (by omega) (by omega), ix_zI w0 (by omega), h156 w (Or.inl rfl), aw, if_pos rfl, bnd_zI x0 (by omega) (by omega), ix_zI x0 (by omega), f_M_wedsBack_2_eq, show (-1 : Int32) = zI (-1) from rfl, if_pos rfl]
    · obtain ⟨⟨p0, p1, sp⟩, j', j'j, ea⟩ := q4 j z jm
      rw [← cx] at p0 p1 sp
      have e4 : cur (q j) = pt (q j) := cx
      obtain ⟨fin, f1, f2, f3, f4⟩ := ih j' (by omega) (by omega) (i + 1) (cur (q j)) (mup (mup cur (q j) w) w (q j)) (by omega) p0 p1 sp (by rw [e4]; exact ea) hJ' (fun i' hi' => by
        have n1 : q i' ≠ w := fun e => by have := (q1 i' (by omega)).2.2; rw [e] at this; omega
        have n2 : q i' ≠ q j := q2 i' j (by omega) jm
        rw [mup_ne n1, mup_ne n2]; exact hc i' (by omega)) newN
      refine ⟨fin, f1, f2, fun σ v x4 x5 h84 h85 => ?_, fun τ v x4 x5 h155 h156 => ?_⟩
      · obtain ⟨σ', a1, a2, a3⟩ := f3 (sI (sI σ 84 (q j).toNat (zI w)) 84 w.toNat (zI (q j))) (nlg v) (.int (zI (q j))) (.int (zI (cur (q j)))) (cellsC σ h84) (fun y hy => by
          rw [sI_row _ _ _ _ _ (by decide), sI_row _ _ _ _ _ (by decide)]
          rcases hy with hy | hy
          · exact h85 y (Or.inr ⟨j, z, jm, hy.trans e4⟩)
          · exact h85 y (Or.inr hy))
        exact ⟨σ', by rw [headC σ v x4 x5 h84 (h85 w (Or.inl rfl))]; exact a1, (((Fr.rf _ σ).sI _ rfl).sI _ rfl).tr a2, a3⟩
      · obtain ⟨τ', a1, a2, a3⟩ := f4 (sI (sI τ 155 (q j).toNat (zI w)) 155 w.toNat (zI (q j))) (nlg v) (.int (zI (q j))) (.int (zI (cur (q j)))) (cellsM τ h155) (fun y hy => by
          rw [sI_row _ _ _ _ _ (by decide), sI_row _ _ _ _ _ (by decide)]
          rcases hy with hy | hy
          · exact h156 y (Or.inr ⟨j, z, jm, hy.trans e4⟩)
          · exact h156 y (Or.inr hy))
        refine ⟨τ', ?_, (((Fr.rf _ τ).sI _ rfl).sI _ rfl).tr a2, a3⟩
        have ne0 : q j ≠ q 0 := Ne.symm (q2 0 j z jm)
        have b0 := (q1 0 (by omega))
        rw [f_M_wedsBack_2_eq, show (-1 : Int32) = zI (-1) from rfl, if_neg (by rw [zI_eq (by omega) (by decide)]; omega), bnd_zI w0 (by omega) (by omega), bnd_zI w0 (by omega) (by omega), ix_zI w0 (by omega), h156 w (Or.inl rfl), aw, if_neg (by rw [zI_eq (by omega) (by omega)]; exact ne0), bnd_zI x0 (by omega) (by omega), bnd_zI x0 (by omega) (by omega), ix_zI x0 (by omega), bnd_zI w0 (by omega) (by omega), h155 _ x0 x1]
        exact a1
