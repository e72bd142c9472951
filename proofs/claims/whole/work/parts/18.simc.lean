theorem tr_rtr {al : List Nat} : tr (fun a => al.getD (a - 4) 0) = rtr al := by
  funext v
  cases v <;> rfl
theorem Lc.start {al : List Nat} {as : List Value} {n : Nat} (h : (lay as).length ≤ n) : Lc al (lfl n (lay as)) ((lg_sl (as.map (rtr al)) ++ List.replicate (n - (lg_sl (as.map (rtr al))).length) Slot.unset).toArray) n := by
  have h0 := Lr.start (ad := fun a => al.getD (a - 4) 0) (as := as) h
  unfold Lr at h0
  rw [tr_rtr] at h0
  exact h0
set_option maxHeartbeats 4000000 in
/-- every constructor does what the list of cells says -/
theorem simC (l : Launch) (D : va_G) (cy : Nat → ClassId) (A : Nat → Prop) (hAll : ∀ k, k < 340 → okA k = true) (hD : ∀ k, k < 340 → okD (mby k) (mcd k) = true) : ∀ d : Nat, ConOK l D cy A (cev d) d
  | 0 => fun x al as w w' hx hB _ _ h => (nsm h).elim
  | d + 1 => by
    intro x al as w w' hx3 hB hname hret h
    have ih := simC l D cy A hAll hD d
    have hAx := hAll x hx3
    obtain ⟨g1, g2, g3⟩ := okA_it hAx
    rw [cev] at h
    cases hle : Nat.ble (lay as).length (mmL x) with
    | false => rw [hle] at h; exact (nsm h).elim
    | true =>
    rw [hle] at h
    have hle := Nat.le_of_ble_eq_true hle
    have hx1 : x ≠ 1 := fun e => by subst e; exact absurd (okB_pl hB) (by decide +kernel)
    have hx5 : Nat.beq x 55 = false := by
      cases hq : Nat.beq x 55 with
      | false => rfl
      | true => have := beqN hq; subst this; exact absurd (okB_pl hB) (by decide +kernel)
    have hx6 : Nat.beq x 56 = false := by
      cases hq : Nat.beq x 56 with
      | false => rfl
      | true => have := beqN hq; subst this; exact absurd (okB_pl hB) (by decide +kernel)
    obtain ⟨hW0, -⟩ := okW_of hAll hx3 hx1 hx5 hx6
    obtain ⟨w1, w2, w3, w4, w5, w6⟩ := okW_split hW0
    refine Met.ofW (cc := mby x) (maxL := mmL x) (ret := mret x) (okB_pl hB) rfl ?_
    intro p e s m args below meth c s₁ B hml hv
    obtain ⟨rfl, hK, hC, hN, hA⟩ := hv
    have hts := atoms_spec (ws := mws x) B.pre
    have hown : s.vm.findClass (mY x).cls = some m.cls := findClass_of_methodNamed B.named
    have hx := B.exec
    have hb := B.bytes
    have hr := B.returns
    have hlocks := B.notSynchronized
    have hin : meth.name = (mY x).name := (name_of_methodNamed B.named B.method).1
    rw [lg_entry_eq]
    have := csim (p := p) (l := l) (e := e) (R := (headSpec (mws x) (mrc x (d + 1))).room) (s := s) (m := m) (args := (as.map (rtr al)).toArray) (below := below) (meth := meth) (c := c) (Q := MQ below (PoC D cy A al w') (as.map (rtr al)).toArray s (ccl x).1 (ccl x).2 A) (D := D) (cy := cy) (A := A) (cc := mby x) (mL := mmL x) (own := mow x) (d := d) (cd := mcd x) (cal := cev d) (C := (ccl x).1) (S := (ccl x).2) (w' := w') (al0 := al)
      hx hb hml (by rw [w3]; exact hown) (fun w hw => hts w (List.mem_cons_of_mem _ hw)) hK hN hA (by rw [hin, hname]) rfl rfl ⟨Nat.le_refl _, by show 60 + 60 * d ≤ 60 * (d + 1); omega⟩ ih g1 (hD x hx3) g2 hAll
      (fun al2 H locs lsA pc cu su hcu hsu hdg hC2 hS => W.widen hcu hsu (W.vret hx hb (by rw [hr, hret]) (fun t ht hW => ⟨⟨al2, rfl, trivial, va_K.moved hW.alike hK, by rw [ht]; exact hC2⟩, hS.F ht⟩) hS.2.2 hdg))
      (mcd x) (lfl (mmL x) (lay as)) [] w 0 0 [] s.heap [] _ 0 ⟨[], rfl⟩ (okB_hd hB) (by rw [List.append_nil]; exact Lc.start hle) (by rw [List.append_nil]; exact hC) va_S.rf (Nat.zero_le _) (Nat.zero_le _) h
    exact this
