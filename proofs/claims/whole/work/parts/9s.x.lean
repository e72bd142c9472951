/-! rule: the invariant behind it -/
def SRu (p a k : Nat) : Bool := a == 5 || SMk a k || SMq a k || (a == 102 && (k == 5 || k == 7)) || a == 88 || a == 89 || a == 90 || a == p + 2 || SHo a k
theorem ILaw.refs {l : Nat} {σ τ : Sg} (e : ∀ a, rd τ a = rd σ a) (h : ILaw l σ) : ILaw l τ := by
  have e0 : rd τ l 0 = rd σ l 0 := congrFun (e l) 0
  have e7 : rd τ 102 16 = rd σ 102 16 := congrFun (e 102) 16
  unfold ILaw at h ⊢
  rw [e0, e7, e (l + 1), e (l + 2), e (l + 3), e (l + 4), e (l + 5), e (l + 6), e 115, e 116, e 117, e 118, e 119]
  exact h
theorem IKep.refs {σ τ : Sg} (e : ∀ a, rd τ a = rd σ a) (h : IKep σ) : IKep τ := by
  unfold IKep VOk VEq at h ⊢
  simp only [e]
  exact h
theorem rule_inv {r p l : Nat} {σ τ : Sg} (h : Inv r p l σ) {k : Int} (k2 : 2 ≤ k) (k6 : k ≤ 6) (hr1 : τ.2.2 4 1 = 19 - r) (hr2 : τ.2.2 4 2 = r) (hr3 : ∀ b j, ¬ (b = 4 ∧ (j = 1 ∨ j = 2)) → τ.2.2 b j = σ.2.2 b j) (hF : ∀ a j, (spR r a || SRu p a j) = false → τ.1 a j = σ.1 a j) (e51 : τ.1 5 1 = zI 0) (e7 : τ.1 102 7 = zI 0) (e5 : τ.1 102 5 = zI k) (e0 : τ.1 (19 - r) 0 = zI k) {W C : Int → Int} (oW : onN k W) (oC : onN k C) (hrow : ∀ x, 0 ≤ x → x < k → τ.1 (19 - r + 1) x.toNat = zI (W x) ∧ τ.1 (19 - r + 3) x.toNat = zI (C x) ∧ τ.1 (19 - r + 2) (W x).toNat = zI x ∧ τ.1 (19 - r + 4) (C x).toNat = zI x) (hM : ∀ x, 0 ≤ x → x < k → τ.1 106 x.toNat = zI (W x) ∧ τ.1 107 x.toNat = zI (C x)) (hT : ∀ x, 0 ≤ x → x < rd σ p 0 → τ.1 (p + 2) x.toNat = zI (if rd σ (p + 2) x < k then rd σ (p + 2) x else -1) ∧ τ.1 143 x.toNat = zI (if rd σ (p + 2) x < k then rd σ (p + 2) x else -1)) (hv : ∀ x : Nat, x < 6 → τ.1 88 x = zI 0 ∧ τ.1 89 x = zI 0 ∧ τ.1 90 x = zI 0) (h103 : ∀ j : Nat, j < 18 → τ.1 103 j = zI 0) (hH : IHou (19 - r) p τ) : Inv (19 - r) p l τ := by
  have hb := h.bits
  have hr : r = 7 ∨ r = 12 := hb.1
  have hp : p = 17 ∨ p = 25 := hb.2.1
  have hl : l = 33 ∨ l = 41 := hb.2.2
  have F : Fr (fun a j => spR r a || SRu p a j) σ (τ.1, σ.2) := ⟨rfl, hF⟩
  obtain ⟨i1, i2, i3, i4, i5, i6, i7, i8⟩ := id h
  have rk : rd τ (19 - r) 0 = k := rd_of (x := 0) e0 (by omega) (by omega)
  have rp : rd τ p 0 = rd σ p 0 := fr_rd F (by rcases hp with rfl | rfl <;> rcases hr with rfl | rfl <;> rfl)
  have rW : ∀ x, 0 ≤ x → x < k → rd τ (19 - r + 1) x = W x := fun x x0 x1 => rd_of (hrow x x0 x1).1 (by have := oW.1 x x0 x1; omega) (by have := oW.1 x x0 x1; omega)
  have rC : ∀ x, 0 ≤ x → x < k → rd τ (19 - r + 3) x = C x := fun x x0 x1 => rd_of (hrow x x0 x1).2.1 (by have := oC.1 x x0 x1; omega) (by have := oC.1 x x0 x1; omega)
  have rH : ∀ x, 0 ≤ x → x < k → rd τ (19 - r + 2) (W x) = x := fun x x0 x1 => rd_of (hrow x x0 x1).2.2.1 (by omega) (by omega)
  have rM : ∀ x, 0 ≤ x → x < k → rd τ (19 - r + 4) (C x) = x := fun x x0 x1 => rd_of (hrow x x0 x1).2.2.2 (by omega) (by omega)
  have nm : NmOk k (rd τ (19 - r + 1)) (rd τ (19 - r + 2)) (rd τ (19 - r + 3)) (rd τ (19 - r + 4)) := nmOk_of k6 ⟨fun x x0 x1 => by rw [rW x x0 x1]; exact oW.1 x x0 x1, fun x y x0 x1 y0 y1 e => by rw [rW x x0 x1, rW y y0 y1] at e; exact oW.2 x y x0 x1 y0 y1 e⟩ ⟨fun x x0 x1 => by rw [rC x x0 x1]; exact oC.1 x x0 x1, fun x y x0 x1 y0 y1 e => by rw [rC x x0 x1, rC y y0 y1] at e; exact oC.2 x y x0 x1 y0 y1 e⟩ fun x x0 x1 => by rw [rW x x0 x1, rC x x0 x1]; exact ⟨rH x x0 x1, rM x x0 x1⟩
  refine ⟨?_, ?_, ?_, ?_, ?_, hH, ?_, ?_⟩
  · obtain ⟨a1, a2, a3, a4, a5, a6, a7, a8, a9, a10⟩ := i1
    refine ⟨by rcases hr with rfl | rfl <;> simp [isR], a2, a3, hr1, by rw [hr2]; omega, ?_, ?_, ?_, ?_, ?_⟩
    · rw [hr3 _ _ (by omega)]; exact a6
    · rw [hr3 _ _ (by omega)]; exact a7
    · rw [hr3 _ _ (by omega)]; exact a8
    · rw [hr3 _ _ (by omega)]; exact a9
    · rw [hr3 _ _ (by omega), hr3 _ _ (by omega)]; exact a10
  · have q1 : rd τ 5 1 = 0 := rd_of (x := 1) e51 (by omega) (by omega)
    have q2 : rd τ 102 7 = 0 := rd_of (x := 7) e7 (by omega) (by omega)
    unfold ITape
    rw [q1, q2]
    exact ⟨by decide, by decide, rfl, fun j j0 j1 => by omega⟩
  · unfold IRule
    rw [rk]
    refine ⟨⟨by rcases hr with rfl | rfl <;> simp [isR], rk, nm⟩, Or.inr k2, rd_of (x := 5) e5 (by omega) (by omega), fun x x0 x1 => ?_⟩
    rw [rW x x0 x1, rC x x0 x1]
    have b1 := oW.1 x x0 x1
    have b2 := oC.1 x x0 x1
    exact ⟨rd_of (hM x x0 x1).1 (by omega) (by omega), rd_of (hM x x0 x1).2 (by omega) (by omega)⟩
  · obtain ⟨ok, e69, rows, bits, pb⟩ := i4
    have eq : ∀ a, (a = p + 1 ∨ a = p + 3 ∨ a = p + 4 ∨ a = p + 5 ∨ a = 142 ∨ a = 144 ∨ a = 145 ∨ a = 146) → rd τ a = rd σ a := fun a q => fr_row F fun j => by
      rcases hp with rfl | rfl <;> rcases hr with rfl | rfl <;> rcases q with rfl | rfl | rfl | rfl | rfl | rfl | rfl | rfl <;> rfl
    have tb := fun x x0 x1 => (ok.2.2 x x0 x1).2
    have n6 : rd σ r 0 ≤ 6 := i3.1.2.2.1
    have tv : ∀ x, 0 ≤ x → x < rd σ p 0 → rd τ (p + 2) x = (if rd σ (p + 2) x < k then rd σ (p + 2) x else -1) ∧ rd τ 143 x = (if rd σ (p + 2) x < k then rd σ (p + 2) x else -1) := fun x x0 x1 => by
      have := tb x x0 x1
      have hb : -2147483648 ≤ (if rd σ (p + 2) x < k then rd σ (p + 2) x else -1) ∧ (if rd σ (p + 2) x < k then rd σ (p + 2) x else -1) < 2147483648 := by split <;> omega
      exact ⟨rd_of (hT x x0 x1).1 hb.1 hb.2, rd_of (hT x x0 x1).2 hb.1 hb.2⟩
    have cell : ∀ a j, (a = p + 6 ∨ a = p + 7 ∨ a = p ∧ (j = 8 ∨ j = 9)) → τ.1 a j = σ.1 a j := fun a j q => F.2 a j (by
      rcases hp with rfl | rfl <;> rcases hr with rfl | rfl <;> rcases q with rfl | rfl | ⟨rfl, rfl | rfl⟩ <;> rfl)
    have e69' : rd τ 102 69 = rd σ 102 69 := fr_rd F (by rcases hp with rfl | rfl <;> rcases hr with rfl | rfl <;> rfl)
    unfold IRoll
    rw [rk, rp, eq _ (by simp), eq (p + 3) (by simp), eq (p + 4) (by simp), eq (p + 5) (by simp), eq 142 (by simp), eq 144 (by simp), eq 145 (by simp), eq 146 (by simp), e69']
    refine ⟨⟨ok.1, ok.2.1, fun x x0 x1 => ?_⟩, e69, fun x x0 x1 => ?_, fun x y x0 x1 y0 y1 => ?_, fun y y0 y1 => ?_⟩
    · obtain ⟨o1, o2, o3, o4⟩ := ok.2.2 x x0 x1
      rw [(tv x x0 x1).1]
      refine ⟨o1, ?_, ?_, o4⟩ <;> split <;> omega
    · obtain ⟨o1, o2, o3, o4, o5⟩ := rows x x0 x1
      exact ⟨o1, by rw [(tv x x0 x1).1, (tv x x0 x1).2], o3, o4, o5⟩
    · rw [cell _ _ (Or.inl rfl), cell _ _ (Or.inr (Or.inl rfl))]; exact bits x y x0 x1 y0 y1
    · rw [cell _ _ (Or.inr (Or.inr ⟨rfl, Or.inl rfl⟩)), cell _ _ (Or.inr (Or.inr ⟨rfl, Or.inr rfl⟩))]; exact pb y y0 y1
  · refine ILaw.refs (σ := (τ.1, σ.2)) (fun _ => rfl) ?_
    refine i5.fr F fun a j e => ?_
    simp only [DLaw, Bool.or_eq_true, Bool.and_eq_true, beq_iff_eq] at e
    rcases hp with rfl | rfl <;> rcases hr with rfl | rfl <;> rcases hl with rfl | rfl <;> rcases e with ((((((((((((⟨rfl, rfl⟩ | rfl) | rfl) | rfl) | rfl) | rfl) | rfl) | ⟨rfl, rfl⟩) | rfl) | rfl) | rfl) | rfl) | rfl) <;> rfl
  · unfold IVil
    rw [rk]
    have V := vOf_VC σ 87
    have vb := i7.1.vb
    have cell : ∀ a j, (a = 87 ∨ a = 103 ∧ 18 ≤ j) → τ.1 a j = σ.1 a j := fun a j q => F.2 a j (by
      rcases hp with rfl | rfl <;> rcases hr with rfl | rfl <;> rcases q with rfl | ⟨rfl, q⟩ <;> simp [spR, SRu, SMk, SMq, SHo] <;> omega)
    have v18 : (fun j : Int => if j < 18 then 0 else vOf σ 87 j) 18 = vOf σ 87 18 := if_neg (by decide)
    have v19 : (fun j : Int => if j < 18 then 0 else vOf σ 87 j) 19 = vOf σ 87 19 := if_neg (by decide)
    refine V_mk (v := fun j => if j < 18 then 0 else vOf σ 87 j) (fun x x0 x6 => ?_) ?_ ?_ ⟨fun j j0 j1 => ?_, fun x xk x0 x6 => ?_, by rw [v18, v19]; exact vb.2.2⟩ (fun j j0 j1 => ?_)
    · obtain ⟨z1, z2, z3⟩ := hv x.toNat (by omega)
      show τ.1 88 x.toNat = zI (if x < 18 then 0 else vOf σ 87 x) ∧ τ.1 89 x.toNat = zI (if 6 + x < 18 then 0 else vOf σ 87 (6 + x)) ∧ τ.1 90 x.toNat = zI (if 12 + x < 18 then 0 else vOf σ 87 (12 + x))
      rw [if_pos (by omega), if_pos (by omega), if_pos (by omega)]
      exact ⟨z1, z2, z3⟩
    · rw [cell _ _ (Or.inl rfl)]; exact V.2.1.trans (congrArg zI v18.symm)
    · rw [cell _ _ (Or.inl rfl)]; exact V.2.2.1.trans (congrArg zI v19.symm)
    · show 0 ≤ (if j < 18 then 0 else vOf σ 87 j) ∧ (if j < 18 then 0 else vOf σ 87 j) ≤ 9999
      rw [if_pos j1]; exact ⟨by decide, by decide⟩
    · show (if x < 18 then 0 else vOf σ 87 x) = 0 ∧ (if 6 + x < 18 then 0 else vOf σ 87 (6 + x)) = 0 ∧ (if 12 + x < 18 then 0 else vOf σ 87 (12 + x)) = 0
      rw [if_pos (by omega), if_pos (by omega), if_pos (by omega)]
      exact ⟨rfl, rfl, rfl⟩
    · show _ = zI (if j < 18 then 0 else vOf σ 87 j)
      by_cases z : j < 18
      · rw [if_pos z]; exact h103 j.toNat (by omega)
      · rw [if_neg z, cell _ _ (Or.inr ⟨rfl, by omega⟩)]
        exact i7.2.vm j j0 j1
  · refine IKep.refs (σ := (τ.1, σ.2)) (fun _ => rfl) ?_
    refine i8.fr F fun a j e => ?_
    simp only [DKep, DV, Bool.or_eq_true, Bool.and_eq_true, beq_iff_eq] at e
    rcases hp with rfl | rfl <;> rcases hr with rfl | rfl <;> rcases e with (rfl | ⟨rfl, rfl | rfl⟩) | ((((⟨rfl, rfl | rfl⟩ | rfl) | rfl) | rfl) | rfl) <;> rfl
