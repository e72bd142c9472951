theorem MW.fr1 {f n i : Int} {W : WS} {σ : Sg} (h : MW f n i W σ) (k : Nat) (v : Int32) (hk : k = 10 ∨ k = 40 ∨ k = 41) : MW f n i W (sI σ 102 k v) := by
  obtain ⟨h1, h2, h3, h4, h5, h6, h7⟩ := h
  refine ⟨by rw [sI_slot _ _ _ _ (by omega)]; exact h1, by rw [sI_slot _ _ _ _ (by omega)]; exact h2, by rw [sI_slot _ _ _ _ (by omega)]; exact h3, by rw [sI_slot _ _ _ _ (by omega)]; exact h4, by rw [sI_slot _ _ _ _ (by omega)]; exact h5, fun x x0 x1 => ?_, fun x x0 x1 => ?_⟩
  · rw [sI_row _ _ _ _ _ (by decide), sI_row _ _ _ _ _ (by decide)]; exact h6 x x0 x1
  · rw [sI_row _ _ _ _ _ (by decide), sI_row _ _ _ _ _ (by decide), sI_row _ _ _ _ _ (by decide)]; exact h7 x x0 x1
theorem MT.fr {S : Nat → Nat → Bool} {σ σ' : Sg} {f n : Int} {T : Int → Int} (h : MT f n T σ) (F : Fr S σ σ') (hS : ∀ k, S 108 k = false) : MT f n T σ' := fun j j0 j1 => by rw [F.2 _ _ (hS _)]; exact h j j0 j1
def wDig (W : WS) (c : Int) : WS := WS.mk W.size W.op (c - 48) W.due W.st W.pl W.oa W.ot W.os
theorem readsTimes_sp {σ : Sg} {d : Nat} {f n i : Int} {T : Int → Int} {W : WS} (ht : MT f n T σ) (h : MW f n i W σ) (hk : WSk i W) (w0 : W.digit = 0) (f0 : 0 ≤ f) (fn : f + n ≤ 260) (i0 : 0 ≤ i) (i1 : i ≤ n) (tb : ∀ j, 0 ≤ j → j < n → 0 ≤ T j ∧ T j < 256) : ∃ σ', Fr SMw σ σ' ∧ f_M_readsTimes (d + 2) σ = rV σ' ∧
    ((MW f n i W σ' ∧ σ'.1 102 40 = zI (f + wStart W i) ∧ σ'.1 102 41 = zI (wTimes W) ∧ (i < n → ¬ (50 ≤ T i ∧ T i ≤ 57))) ∨
     (i < n ∧ 50 ≤ T i ∧ T i ≤ 57 ∧ MW f n (i + 1) (wDig W (T i)) σ' ∧ σ'.1 102 40 = zI (f + wStart (wDig W (T i)) (i + 1)) ∧ σ'.1 102 41 = zI (wTimes (wDig W (T i))))) := by
  obtain ⟨h1, h2, h3, h4, h5, h6, h7⟩ := id h
  have t1 : wTimes W = 1 := by unfold wTimes; rw [w0]; rfl
  have s1 : wStart W i = i := if_pos w0
  have M1 : MW f n i W (sI (sI σ 102 40 (zI (f + i))) 102 41 (zI 1)) := (h.fr1 40 _ (by omega)).fr1 41 _ (by omega)
  have F1 : Fr SMw σ (sI (sI σ 102 40 (zI (f + i))) 102 41 (zI 1)) := ((Fr.rf _ σ).sI _ rfl).sI _ rfl
  have eh := here_sp (d := d) (ht.fr F1 fun _ => rfl) M1.2.2.2.1 M1.2.2.2.2.1 f0 fn i0 i1
  have cb : -1 ≤ (if i < n then T i else -1) ∧ (if i < n then T i else -1) < 256 := by
    split
    · have := tb i i0 (by assumption); omega
    · omega
  have start : f_M_readsTimes (d + 2) σ = (if 50 ≤ (if i < n then T i else -1) ∧ (if i < n then T i else -1) ≤ 57 then rV (sI (sI (sI (sI σ 102 40 (zI (f + i))) 102 41 (zI 1)) 102 41 (zI ((if i < n then T i else -1) - 48))) 102 8 (zI (f + i + 1))) else rV (sI (sI σ 102 40 (zI (f + i))) 102 41 (zI 1))) := by
    rw [f_M_readsTimes_eq, h4, show (1 : Int32) = zI 1 from zI_lit 1, show (50 : Int32) = zI 50 from zI_lit 50, show (57 : Int32) = zI 57 from zI_lit 57, show (48 : Int32) = zI 48 from zI_lit 48]
    show (cI (f_M_here (d + 1) (sI (sI σ 102 40 (zI (f + i))) 102 41 (zI 1))) _) = _
    rw [eh, cI_rI, in_sp (by omega) (by decide) (by decide), cI_rI]
    generalize (if i < n then T i else -1) = c at *
    by_cases q : 50 ≤ c ∧ c ≤ 57
    · rw [decide_eq_true q, bz_tt, if_neg (by decide), if_pos q, eh, cI_rI]
      show rV (sI (sI _ 102 41 (zI c - zI 48)) 102 8 ((sI _ 102 41 (zI c - zI 48)).1 102 8 + zI 1)) = _
      rw [zI_sub, sI_slot _ _ _ _ (by decide), M1.2.2.2.1, zI_add]
    · rw [decide_eq_false q, bz_ff, if_pos (by decide), if_neg q]
  rw [start]
  by_cases q : 50 ≤ (if i < n then T i else -1) ∧ (if i < n then T i else -1) ≤ 57
  · have q' : i < n := by
      by_cases z : i < n
      · exact z
      · rw [if_neg z] at q; omega
    rw [if_pos q]
    rw [if_pos q'] at q ⊢
    refine ⟨_, (F1.sI _ rfl).sI _ rfl, rfl, Or.inr ⟨q', q.1, q.2, ?_, ?_, ?_⟩⟩
    · obtain ⟨g1, g2, g3, g4, g5, g6, g7⟩ := M1.fr1 41 (zI (T i - 48)) (by omega)
      refine ⟨by rw [sI_slot _ _ _ _ (by decide)]; exact g1, by rw [sI_slot _ _ _ _ (by decide)]; exact g2, by rw [sI_slot _ _ _ _ (by decide)]; exact g3, by rw [sI_same, Int.add_assoc], by rw [sI_slot _ _ _ _ (by decide)]; exact g5, fun x x0 x1 => ?_, fun x x0 x1 => ?_⟩
      · rw [sI_row _ _ _ _ _ (by decide), sI_row _ _ _ _ _ (by decide)]; exact g6 x x0 x1
      · rw [sI_row _ _ _ _ _ (by decide), sI_row _ _ _ _ _ (by decide), sI_row _ _ _ _ _ (by decide)]; exact g7 x x0 x1
    · have : wStart (wDig W (T i)) (i + 1) = i := by
        unfold wStart
        rw [if_neg (show ¬ ((wDig W (T i)).digit = 0) from (show ¬ (T i - 48 = 0) by omega))]; omega
      rw [this, sI_slot _ _ _ _ (by decide), sI_slot _ _ _ _ (by decide), sI_slot _ _ _ _ (by decide), sI_same]
    · have : wTimes (wDig W (T i)) = T i - 48 := by
        show max (T i - 48) 1 = _
        omega
      rw [this, sI_slot _ _ _ _ (by decide), sI_same]
  · rw [if_neg q]
    refine ⟨_, F1, rfl, Or.inl ⟨M1, ?_, ?_, fun z => by rw [if_pos z] at q; exact q⟩⟩
    · rw [s1, sI_slot _ _ _ _ (by decide), sI_same]
    · rw [t1, sI_same]
theorem wDig_k {i c : Int} {W : WS} (h : WSk i W) (i0 : 0 ≤ i) (c0 : 50 ≤ c) (c1 : c ≤ 57) : WSk (i + 1) (wDig W c) := by
  refine ⟨h.s, h.o, Or.inr ⟨by show 2 ≤ c - 48; omega, by show c - 48 ≤ 9; omega, by omega⟩, fun x x0 x1 => ?_, fun x x0 x1 => ?_, h.z⟩
  · obtain ⟨a, b, c, d⟩ := h.x x x0 x1
    exact ⟨a, b, c, by show W.pl x < i + 1; omega⟩
  · obtain ⟨a, b, c, d⟩ := h.y x x0 x1
    exact ⟨a, by show W.oa x < i + 1; omega, c, d⟩
theorem wByte_dig {i c : Int} {W : WS} (w0 : W.digit = 0) (c0 : 50 ≤ c) (c1 : c ≤ 57) : wByte W i c = Sum.inr (wDig W c) := by
  unfold wByte
  rw [if_neg (by omega), if_neg (by omega), if_pos ⟨c0, c1, w0⟩]; rfl
