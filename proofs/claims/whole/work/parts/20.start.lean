theorem w1_wok : wok w1 = true ∧ w1.length = 98 := by decide +kernel
theorem w3_wok : wok w3 = true := by decide +kernel
theorem w1_ev : cev 3 0 [.ref 4] w0 = some w1 := by
  have h := w1_ok.1
  unfold w1
  cases hc : cev 3 0 [.ref 4] w0 with
  | none => rw [hc] at h; cases h
  | some q => rfl
theorem w3_ev : cev 3 187 [.ref 102] w2 = some w3 := by
  have h := w3_ok.1
  unfold w3
  cases hc : cev 3 187 [.ref 102] w2 with
  | none => rw [hc] at h; cases h
  | some q => rfl
def adF (b t1 t2 t3 : Nat) (al : List Nat) (k : Nat) : Nat := match k with
  | 0 => b
  | 1 => t1
  | 2 => t2
  | 3 => t3
  | n + 4 => al.getD n 0
theorem adF_ge {b t1 t2 t3 : Nat} {al : List Nat} {k : Nat} (h : 4 ≤ k) : adF b t1 t2 t3 al k = al.getD (k - 4) 0 := by
  obtain ⟨n, rfl⟩ : ∃ n, k = n + 4 := ⟨k - 4, by omega⟩
  rfl
theorem start_ws {cy : Nat → ClassId} {b t1 t2 t3 : Nat} {al : List Nat} (hl : al.length = 154) : rws cy al w3 = wsA cy (adF b t1 t2 t3 al) σ0 := by
  have h3 : w3.length = 154 := w3_ok.2
  apply List.ext_getElem?
  intro j
  rcases Nat.lt_or_ge j 154 with hj | hj
  · have hw := wchk_ok j hj
    have he : w3[j]? = some (w3[j]'(by omega)) := List.getElem?_eq_getElem (by omega)
    generalize w3[j]'(by omega) = en at he
    rw [rws_at (by omega) he]
    have hat := wsA_at (cy := cy) (ad := adF b t1 t2 t3 al) (σ := σ0) (a := j + 4) (by omega) (by omega)
    rw [show j + 4 - 4 = j by omega] at hat
    rw [hat]
    have h1 : adF b t1 t2 t3 al (j + 4) = al.getD j 0 := rfl
    rw [h1]
    refine congrArg (fun z => some (al.getD j 0, z)) ?_
    unfold wchk at hw
    rw [show j + 4 - 4 = j by omega, he] at hw
    obtain ⟨k1, k2⟩ := an hw
    have k1 := beqN k1
    unfold enA
    rw [← k1]
    unfold rent
    cases hb : Nat.blt en.1 12 with
    | true =>
      rw [hb] at k2
      have k2 := of_decide_eq_true k2
      refine congrArg (fun z : List Value => (Sum.inr (en.1, z) : va_E)) ?_
      have hok := List.all_eq_true.mp w3_wok en (List.mem_of_getElem? he)
      have e1 : en.2.2.1.map (rtr al) = en.2.2.1.map (tr (adF b t1 t2 t3 al)) := by
        refine List.map_congr_left fun v hv => ?_
        have := List.all_eq_true.mp hok v hv
        cases v with
        | ref r =>
          have h4 := Nat.le_of_ble_eq_true (an this).1
          show Value.ref _ = Value.ref _
          rw [adF_ge h4]
        | _ => rfl
      rw [e1]
      conv => lhs; rw [k2]
      rw [List.map_map]
      refine List.map_congr_left fun y _ => ?_
      rw [Function.comp_apply]
      unfold fdV
      generalize fk en.1 y = f
      rcases f with _ | _ | _ | f <;> rfl
    | false =>
      rw [hb] at k2
      have k2 := beqN k2
      have e3 : σ0.1 (j + 4) = en.2.2.2 := by
        funext k
        unfold σ0
        dsimp only
        rw [show j + 4 - 4 = j by omega, he]
        dsimp only
        rw [hb]
      rw [e3, ← k2]
      rfl
  · rw [List.getElem?_eq_none (by unfold rws; simp; omega), List.getElem?_eq_none (by unfold wsA; simp; omega)]
