/-! THE STEPS -/
section Sim
variable {p : Program} {l : Launch} {e : Env} {R : Room} {s : State} {m : MethodId} {args : Array Value} {below : List Frame} {meth : Method} {c : Code} {locs : List Loc} {cells slots : Nat} {Q : State → Prop}
variable {sc : Scr} {D : va_G} {cy : Nat → ClassId} {ad : Nat → Nat} {A : Nat → Prop} {cc : ByteArray} {mL own d : Nat} {cd : Cod} {cal : Nat → List Value → Sg → Rs}
/-- the walk from everywhere, n steps -/
def Go (p : Program) (l : Launch) (e : Env) (R : Room) (s : State) (m : MethodId) (args : Array Value) (below : List Frame) (meth : Method) (c : Code) (cells slots : Nat) (Q : State → Prop)
    (sc : Scr) (D : va_G) (cy : Nat → ClassId) (ad : Nat → Nat) (A : Nat → Prop) (mL : Nat) (cd : Cod) (cal : Nat → List Value → Sg → Rs) (q : Option Value × Sg) (n : Nat) : Prop :=
  ∀ (sx : Cod) (ls st : List Value) (σ : Sg) (H : Heap) (locs : List Loc) (lsA : Array Slot) (pc : Nat), Suf cd sx → hdp pc sx → Lr ad ls lsA mL → Rp D cy ad A σ H → va_S A s.heap H locs → run sc cal cd n sx ls st σ = some q →
    W p l e R s m args below meth c H locs cells slots Q (F0 m pc lsA (st.map (tr ad)))
/-- how a walk ends -/
def Fin (p : Program) (l : Launch) (e : Env) (R : Room) (s : State) (m : MethodId) (args : Array Value) (below : List Frame) (meth : Method) (c : Code) (cells slots : Nat) (Q : State → Prop)
    (D : va_G) (cy : Nat → ClassId) (ad : Nat → Nat) (A : Nat → Prop) (cd : Cod) (q : Option Value × Sg) : Prop :=
  ∀ (it : Itm) (H : Heap) (locs : List Loc) (lsA : Array Slot), it ∈ cd → Rp D cy ad A q.2 H → va_S A s.heap H locs →
    (it.2.1 = .return_ → it.2.2.1 = 1 → q.1 = none → W p l e R s m args below meth c H locs cells slots Q (F0 m it.1 lsA [])) ∧
    (∀ v : Int32, it.2.1 = .ireturn → it.2.2.1 = 1 → q.1 = some (.int v) → (it.2.2.2.1 = 0 ∨ v = 0 ∨ v = 1) → W p l e R s m args below meth c H locs cells slots Q (F0 m it.1 lsA [.int v])) ∧
    (∀ v : Int64, it.2.1 = .lreturn → it.2.2.1 = 1 → q.1 = some (.long v) → W p l e R s m args below meth c H locs cells slots Q (F0 m it.1 lsA [.long v]))
theorem Lr.sz {ls : List Value} {lsA : Array Slot} (h : Lr ad ls lsA mL) : lsA.size = mL := h.1.1

set_option maxHeartbeats 4000000 in
/-- a call -/
theorem sim_ivk (C0 : Cx p R s m args c sc D cy ad A cc mL own d) (hcr : cells ≤ R.cells ∧ slots ≤ R.slots) (hM : CalOK l D cy ad A cal d) (hch : chn cd = true) (hdc : okD cc cd = true) (hok : cd.all (okI own mL) = true) {q : Option Value × Sg} {n : Nat}
    (ih : Go p l e R s m args below meth c cells slots Q sc D cy ad A mL cd cal q n)
    {pc len x y : Nat} {z : Int32} {tb : List (Int32 × Nat)} {ins : Instr} {tl : Cod} {ls st : List Value} {σ : Sg} {H : Heap} {locs : List Loc} {lsA : Array Slot} {i : Nat}
    (hins : ins = .invokevirtual i ∨ ins = .invokestatic i) (hI : okI own mL (pc, ins, len, x, y, z, tb) = true) (hdg : decode cc pc = .ok (ins, len)) (hsx : Suf cd tl) (hnx : hdp (pc + len) tl)
    (hL : Lr ad ls lsA mL) (hR : Rp D cy ad A σ H) (hS : va_S A s.heap H locs) (h : ivk cal x y st σ (fun r σ => run sc cal cd n tl ls r σ) = some q) :
    W p l e R s m args below meth c H locs cells slots Q (F0 m pc lsA (st.map (tr ad))) := by
  obtain ⟨⟨hx, hb, hml, hown, hts⟩, hK, hF, -, hN, hroom⟩ := C0
  have hwd : ∀ {pp : Nat} {w : Qw}, wdi pp w = true → goodWord (dw w) = true → (dw w).before args s = true := fun h1 h2 => hts _ (mem_good (wd_of h1) h2)
  unfold ivk at h
  dsimp only at h
  split at h
  · -- arraycopy
    rename_i hx9
    have hx9 := beqN hx9
    subst hx9
    split at h
    · rename_i nn dp a sp a0
      rcases hins with rfl | rfl
      · have h1 := (an hI).2
        rcases orr h1 with h2 | h2
        · exact absurd h2 (by decide)
        · exact absurd (an (an (an (an h2).1).1).1).1 (by decide)
      have hlen := beqN (an hI).1
      subst hlen
      have hw : Cond.methodLink (ocl own) i arraycopyName ∈ lw_tbl := wx_of (an hI).2
      unfold acp at h
      obtain ⟨k0, h⟩ := gd_inv h
      obtain ⟨k1, h⟩ := gd_inv h
      split at h
      · exact (nsm h).elim
      rename_i hb5
      simp only [not_or, Nat.not_lt] at hb5
      obtain ⟨b1, b2, b3, b4, b5⟩ := hb5
      refine va_copyi (D := D) (cl := vwCl) (A := A) (tys := tyA cy) (ws := wsA cy ad σ) (H0 := s.heap) (own := ocl own) (index := i) (a := ad a) (a0 := ad a0) (rest := []) (sp := sp) (dp := dp) (n := nn) (ty := .int) hx hb (hml.trans hL.sz.symm) hown
        (hts _ (mem_good hw rfl)) (hts _ (mem_good (spx_in (Cond.native arraycopyName) (by decide +kernel)) rfl)) (hts _ (mem_good (spx_in (Cond.static arraycopyName) (by decide +kernel)) rfl)) (hwd (pp := p_ari) (w := (6, 16, 0, 0)) (by decide +kernel) rfl)
        hK hR.1 hR.2 hS (a0 - 4) (a - 4) 2 2 (at_int k0 (.inr (.inr rfl))) (at_int k1 (.inr (.inr rfl))) rfl rfl rfl b1 b2 b3 b4 b5 (fun _ _ => rfl) (by omega) ?_ hdg (fun H1 locs1 hP1 hD1 hS1 => ?_)
      · have := hroom.2
        have e : nativeFrameWords "java/lang/System" "arraycopy" 5 + 11 ≤ 60 := by decide +kernel
        simp only [List.map_nil, List.sum_nil]
        omega
      · rw [set_aC k1] at hP1 hD1
        exact ih tl ls [] _ H1 locs1 lsA (pc + 3) hsx hnx hL ⟨hP1, hD1⟩ hS1 h
    · exact (nsm h).elim
  split at h
  · -- min
    rename_i hx9
    have hx9 := beqN hx9
    subst hx9
    obtain ⟨a, b, r, rfl, hr, h⟩ := mm2_inv h
    rcases hins with rfl | rfl
    · have h1 := (an hI).2
      rcases orr h1 with h2 | h2
      · exact absurd h2 (by decide)
      · exact absurd (an (an (an h2).1).1).1 (by decide)
    have hlen := beqN (an hI).1
    subst hlen
    have h1 : (Nat.beq 55 998 || (Nat.blt 55 340 && Nat.beq (mkd 55) 99 && Nat.beq y (mnp 55) && (bif decide (z = 0) then wdi (pl1 tb) (1, own, i, 55) else wdi (pl1 tb) (2, own, i, 55)))) = true := (an hI).2
    rcases orr h1 with h2 | h2
    · exact absurd h2 (by decide)
    have h3 := (an h2).2
    have hz : wdi (pl1 tb) (1, own, i, 55) = true := by
      cases hz : decide (z = 0) with
      | true => rw [hz] at h3; exact h3
      | false =>
        rw [hz] at h3
        exact absurd (List.mem_of_getElem? (of_decide_eq_true h3)) (by
          have : ∀ q ∈ QS, (match q with | (2, _, _, x) => !(Nat.beq x 55 || Nat.beq x 56) | _ => true) = true := by decide +kernel
          intro hq
          exact absurd (this _ hq) (by decide))
    refine va_mmin (R := R) (own := ocl own) (index := i) (x := a) (y := b) (rest := r.map (tr ad)) hx hb (hml.trans hL.sz.symm) hown (hwd hz rfl) (hwd (pp := (mpl 55).2.2.1) (w := (3, 55, 0, 0)) (by decide +kernel) rfl) (hwd (pp := (mpl 55).2.1) (w := (6, 15, 0, 0)) (by decide +kernel) rfl) (hwd (pp := (mpl 55).1) (w := (0, 55, 0, 0)) (by decide +kernel) rfl) (by omega) ?_ hcr.1 hcr.2 hdg ?_
    · have := cat_le (r := r.map (tr ad)) (by simpa using hr)
      omega
    · exact ih tl ls (.int (mnI a b) :: r) σ H locs lsA (pc + 3) hsx hnx hL hR hS h
  split at h
  · -- max
    rename_i hx9
    have hx9 := beqN hx9
    subst hx9
    obtain ⟨a, b, r, rfl, hr, h⟩ := mm2_inv h
    rcases hins with rfl | rfl
    · have h1 := (an hI).2
      rcases orr h1 with h2 | h2
      · exact absurd h2 (by decide)
      · exact absurd (an (an (an h2).1).1).1 (by decide)
    have hlen := beqN (an hI).1
    subst hlen
    have h1 : (Nat.beq 56 998 || (Nat.blt 56 340 && Nat.beq (mkd 56) 99 && Nat.beq y (mnp 56) && (bif decide (z = 0) then wdi (pl1 tb) (1, own, i, 56) else wdi (pl1 tb) (2, own, i, 56)))) = true := (an hI).2
    rcases orr h1 with h2 | h2
    · exact absurd h2 (by decide)
    have h3 := (an h2).2
    have hz : wdi (pl1 tb) (1, own, i, 56) = true := by
      cases hz : decide (z = 0) with
      | true => rw [hz] at h3; exact h3
      | false =>
        rw [hz] at h3
        exact absurd (List.mem_of_getElem? (of_decide_eq_true h3)) (by
          have : ∀ q ∈ QS, (match q with | (2, _, _, x) => !(Nat.beq x 55 || Nat.beq x 56) | _ => true) = true := by decide +kernel
          intro hq
          exact absurd (this _ hq) (by decide))
    refine va_mmax (R := R) (own := ocl own) (index := i) (x := a) (y := b) (rest := r.map (tr ad)) hx hb (hml.trans hL.sz.symm) hown (hwd hz rfl) (hwd (pp := (mpl 56).2.2.1) (w := (3, 56, 0, 0)) (by decide +kernel) rfl) (hwd (pp := (mpl 56).2.1) (w := (6, 15, 0, 0)) (by decide +kernel) rfl) (hwd (pp := (mpl 56).1) (w := (0, 56, 0, 0)) (by decide +kernel) rfl) (by omega) ?_ hcr.1 hcr.2 hdg ?_
    · have := cat_le (r := r.map (tr ad)) (by simpa using hr)
      omega
    · exact ih tl ls (.int (mxI a b) :: r) σ H locs lsA (pc + 3) hsx hnx hL hR hS h
  split at h
  · sorry
  · exact (nsm h).elim
end Sim
