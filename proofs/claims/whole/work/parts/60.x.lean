theorem wAB_sp {d : Nat} {f n s : Int} {T : Int → Int} {σ : Sg} (ht : MT f n T σ) (f0 : 0 ≤ f) (fn : f + n ≤ 260) (tb : ∀ j, 0 ≤ j → j < n → 0 ≤ T j ∧ T j < 256) (b : Nat) : ∀ (k : Nat), k < b → ∀ i : Int, i + k = n → 0 ≤ i → wA d f n s T σ k i ∧ wB d f n s T σ k i := by
  induction b with
  | zero => intro k h; omega
  | succ b ih =>
    intro k hk i ik i0
    have hA : ∀ k', k = k' + 1 → wA d f n s T σ k' (i + 1) := fun k' e => (ih k' (by omega) (i + 1) (by omega) (by omega)).1
    have hA' : ∀ k', k = k' + 2 → wA d f n s T σ k' (i + 1 + 1) := fun k' e => (ih k' (by omega) (i + 1 + 1) (by omega) (by omega)).1
    have hB : ∀ k', k = k' + 1 → wB d f n s T σ k' (i + 1) := fun k' e => (ih k' (by omega) (i + 1) (by omega) (by omega)).2
    have a := wA_sp ht f0 fn tb ik i0 hA hA' hB
    exact ⟨a, wB_sp ht f0 fn tb ik i0 a hA hB⟩
def W0 : WS := WS.mk 0 0 0 true (fun _ => 0) (fun _ => 0) (fun _ => 0) (fun _ => 0) (fun _ => 0)
theorem W0_k : WSk 0 W0 := ⟨⟨by decide, by decide⟩, ⟨by decide, by decide⟩, Or.inl rfl, fun x x0 x1 => by have x1 : x < 0 := x1; omega, fun x x0 x1 => by have x1 : x < 0 := x1; omega, fun z => by cases z⟩
/-- the reference reads a word -/
theorem readsWord_sp {σ : Sg} {d : Nat} {f n s : Int} {T : Int → Int} (ht : MT f n T σ) (f0 : 0 ≤ f) (n0 : 0 ≤ n) (fn : f + n ≤ 260) (tb : ∀ j, 0 ≤ j → j < n → 0 ≤ T j ∧ T j < 256) : wFin (d + 3) n s σ (wRun T n n.toNat 0 W0) (f_M_readsWord (d + 4) (zI f) (zI n) (zI s) σ) := by
  rw [f_M_readsWord_eq]
  show wFin (d + 3) n s σ _ (cV (f_M_beginsText (d + 3) (zI f) (zI n) (sI σ 102 42 (zI f))) fun σ2 => cI (f_M_readsStep (d + 3) (sI (sI σ2 102 38 0) 102 39 0)) fun v6 σ5 => f_M_readsWord_27 (d + 3) (.int (zI f)) (.int (zI n)) (zI s) v6 .null .null σ5)
  rw [f_M_beginsText_eq, zI_0]
  show wFin (d + 3) n s σ _ (cV (rV (sI (sI (sI (sI (sI σ 102 42 (zI f)) 102 8 (zI f)) 102 9 (zI f + zI n)) 102 13 (zI 0)) 102 15 (zI 0))) fun σ2 => cI (f_M_readsStep (d + 3) (sI (sI σ2 102 38 (zI 0)) 102 39 (zI 0))) fun v6 σ5 => f_M_readsWord_27 (d + 3) (.int (zI f)) (.int (zI n)) (zI s) v6 .null .null σ5)
  rw [cV_rV, zI_add]
  generalize hτ : sI (sI (sI (sI (sI (sI (sI σ 102 42 (zI f)) 102 8 (zI f)) 102 9 (zI (f + n))) 102 13 (zI 0)) 102 15 (zI 0)) 102 38 (zI 0)) 102 39 (zI 0) = τ
  have F : Fr SMw σ τ := hτ ▸ (((((((Fr.rf _ σ).sI _ rfl).sI _ rfl).sI _ rfl).sI _ rfl).sI _ rfl).sI _ rfl).sI _ rfl
  have M : MW f n 0 W0 τ := by
    rw [← hτ]
    exact ⟨rfl, rfl, rfl, by rw [Int.add_zero]; rfl, rfl, fun x x0 x1 => by have x1 : x < 0 := x1; omega, fun x x0 x1 => by have x1 : x < 0 := x1; omega⟩
  rw [f_M_readsStep_eq]
  have ab := wAB_sp (d := d) (s := s) ht f0 fn tb (n.toNat + 1)
  exact wStep_sp ht f0 fn tb (k := n.toNat) (i := 0) (by omega) (by decide) (ab n.toNat (by omega) 0 (by omega) (by decide)).1 (fun k' e => (ab k' (by omega) (0 + 1) (by omega) (by decide)).1) F M W0_k rfl (fun _ _ => Or.inl rfl) (fun _ => Or.inl rfl)
