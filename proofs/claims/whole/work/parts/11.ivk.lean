/-! THE STEPS -/
section Sim
variable {p : Program} {l : Launch} {e : Env} {R : Room} {s : State} {m : MethodId} {args : Array Value} {below : List Frame} {meth : Method} {c : Code} {locs : List Loc} {cells slots : Nat} {Q : State → Prop}
variable {sc : Scr} {D : va_G} {cy : Nat → ClassId} {ad : Nat → Nat} {A : Nat → Prop} {cc : ByteArray} {mL own d : Nat} {cd : Cod} {cal : Nat → List Value → Sg → Rs}
/-- the walk from everywhere, n steps -/
def Go (p : Program) (l : Launch) (e : Env) (R : Room) (s : State) (m : MethodId) (args : Array Value) (below : List Frame) (meth : Method) (c : Code) (cells slots : Nat) (Q : State → Prop)
    (sc : Scr) (D : va_G) (cy : Nat → ClassId) (ad : Nat → Nat) (A : Nat → Prop) (mL : Nat) (cd : Cod) (cal : Nat → List Value → Sg → Rs) (q : Option Value × Sg) (n : Nat) : Prop :=
  ∀ (sx : Cod) (ls st : List Value) (σ : Sg) (H : Heap) (locs : List Loc) (lsA : Array Slot) (pc : Nat), Suf cd sx → hdp pc sx → Lr ad ls lsA mL → Rp D cy ad A σ H → va_S A s.heap H locs → run sc cal cd n sx ls st σ = some q →
    W p l e R s m args below meth c H locs cells slots Q (F0 m pc lsA (st.map (tr ad)))
/-- how a walk ends -/
def Fnd (p : Program) (l : Launch) (e : Env) (R : Room) (s : State) (m : MethodId) (args : Array Value) (below : List Frame) (meth : Method) (c : Code) (cells slots : Nat) (Q : State → Prop)
    (D : va_G) (cy : Nat → ClassId) (ad : Nat → Nat) (A : Nat → Prop) (cd : Cod) (q : Option Value × Sg) : Prop :=
  ∀ (it : Itm) (H : Heap) (locs : List Loc) (lsA : Array Slot), it ∈ cd → Rp D cy ad A q.2 H → va_S A s.heap H locs →
    (it.2.1 = .return_ → it.2.2.1 = 1 → q.1 = none → W p l e R s m args below meth c H locs cells slots Q (F0 m it.1 lsA [])) ∧
    (∀ v : Int32, it.2.1 = .ireturn → it.2.2.1 = 1 → q.1 = some (.int v) → (it.2.2.2.1 = 0 ∨ v = 0 ∨ v = 1) → W p l e R s m args below meth c H locs cells slots Q (F0 m it.1 lsA [.int v])) ∧
    (∀ v : Int64, it.2.1 = .lreturn → it.2.2.1 = 1 → q.1 = some (.long v) → W p l e R s m args below meth c H locs cells slots Q (F0 m it.1 lsA [.long v]))
theorem Lr.sz {ls : List Value} {lsA : Array Slot} (h : Lr ad ls lsA mL) : lsA.size = mL := h.1.1

theorem okI_st {own mL pc i len x y : Nat} {z : Int32} {tb : List (Int32 × Nat)} (h : okI own mL (pc, .invokestatic i, len, x, y, z, tb) = true) : len = 3 ∧
    (bif Nat.beq x 999 then wdx (pl1 tb) (.methodLink (ocl own) i arraycopyName)
        else (Nat.beq x 998 || (Nat.blt x 340 && Nat.beq (mkd x) 99 && Nat.beq y (mnp x) && (bif decide (z = 0) then wdi (pl1 tb) (1, own, i, x) else wdi (pl1 tb) (2, own, i, x))))) = true := by
  obtain ⟨a, b⟩ := an h
  exact ⟨beqN a, b⟩
theorem okI_vi {own mL pc i len x y : Nat} {z : Int32} {tb : List (Int32 × Nat)} (h : okI own mL (pc, .invokevirtual i, len, x, y, z, tb) = true) : len = 3 ∧
    (x = 998 ∨ x < 340 ∧ mkd x < 12 ∧ y = mnp x + 1 ∧ wdi (pl1 tb) (1, own, i, x) = true ∧ wdi (mpl x).2.2.2 (5, x, 0, 0) = true) := by
  obtain ⟨a, b⟩ := an h
  refine ⟨beqN a, ?_⟩
  rcases orr b with q | q
  · exact Or.inl (beqN q)
  · obtain ⟨q, q6⟩ := an q
    obtain ⟨q, q5⟩ := an q
    obtain ⟨q, -⟩ := an q
    obtain ⟨q, q3⟩ := an q
    obtain ⟨q1, q2⟩ := an q
    exact Or.inr ⟨bltN q1, bltN q2, beqN q3, q5, q6⟩
theorem okW_split {x : Nat} (h : okW x = true) : wdi (mpl x).1 (0, x, 0, 0) = true ∧ wdi (mpl x).2.1 (6, mow x, 0, 0) = true ∧ ocl (mow x) = (mY x).cls ∧
    ((mY x).cls ≠ "java/lang/invoke/MethodHandle" ∧ (mY x).cls ≠ "java/lang/invoke/VarHandle") ∧ (parseMethodDescriptor (mY x).desc).map (fun d => d.parameters.length) = some (mnp x) ∧
    (bif Nat.beq (mkd x) 99 then wdi (mpl x).2.2.1 (3, x, 0, 0)
     else (wdi (mpl x).2.2.1 (4, x, 0, 0) && decide ((vwCl[mkd x]?).map (fun q => q.1) = some (mY x).cls) && (decide ((mY x).name = "<init>") || wdi (mpl x).2.2.2 (5, x, 0, 0)))) = true := by
  unfold okW at h
  obtain ⟨h, h6⟩ := an h
  obtain ⟨h, h5⟩ := an h
  obtain ⟨h, h4⟩ := an h
  obtain ⟨h, h3⟩ := an h
  obtain ⟨h1, h2⟩ := an h
  exact ⟨h1, h2, of_decide_eq_true h3, of_decide_eq_true h4, of_decide_eq_true h5, h6⟩
theorem okW_of (hAll : ∀ k, k < 340 → okA k = true) {x : Nat} (hx : x < 340) (h1 : x ≠ 1) (h5 : Nat.beq x 55 = false) (h6 : Nat.beq x 56 = false) : okW x = true ∧ okB x = true := by
  have h := hAll x hx
  unfold okA at h
  obtain ⟨h, -⟩ := an h
  obtain ⟨h, -⟩ := an h
  rcases orr h with q | q
  · exact absurd (beqN q) h1
  · obtain ⟨a, b⟩ := an q
    refine ⟨a, ?_⟩
    rw [h5, h6] at b
    exact b
theorem okB_mL {x : Nat} (h : okB x = true) : mmL x < 25 := by
  unfold okB at h
  obtain ⟨h, -⟩ := an h
  exact bltN (an h).2
theorem sim_ret {q : Option Value × Sg} {n : Nat} (hK : va_K D vwCl (tyA cy) s)
    (ih : Go p l e R s m args below meth c cells slots Q sc D cy ad A mL cd cal q n)
    {pc t : Nat} {tl : Cod} {ls rs st0 : List Value} {σ1 : Sg} {H : Heap} {locs : List Loc} {lsA : Array Slot} {o : Option Value} {aa : Array Value}
    (hrun : va_Run p l e R s m args below meth c H locs cells slots 0 0 (F0 m pc lsA st0) (rs.map (tr ad)) (PosA D cy ad A o σ1 aa) A)
    (hsx : Suf cd tl) (hnx : hdp (pc + 3) tl) (hL : Lr ad ls lsA mL) (hS : va_S A s.heap H locs)
    (h : bk t (some (o, σ1)) rs (fun r σ => run sc cal cd n tl ls r σ) = some q) :
    W p l e R s m args below meth c H locs cells slots Q (F0 m pc lsA st0) := by
  unfold bk at h
  dsimp only at h
  split at h
  · -- nothing
    match o, hrun, h with
    | none, hrun, h =>
      have hrun : va_Run p l e R s m args below meth c H locs cells slots 0 0 (F0 m pc lsA st0) (rs.map (tr ad)) (va_Qv (fun (_ : Unit) => True) (fun _ => PoB D cy ad A σ1) A aa) A := hrun
      refine va_callv hrun hS (fun _ _ h => h) (fun _ h => h) (fun u t H1 locs1 ht hvm hw hB hz hk hS1 => ?_)
      have h2 : Rp D cy ad A σ1 H1 := by rw [← ht]; exact hB.2
      exact ih tl ls rs σ1 H1 locs1 lsA (pc + 3) hsx hnx hL h2 hS1 h
    | some v, _, h => exact (nsm h).elim
  · match o, hrun, h with
    | some (.int v), hrun, h =>
      have hrun : va_Run p l e R s m args below meth c H locs cells slots 0 0 (F0 m pc lsA st0) (rs.map (tr ad)) (va_Qi (fun r (_ : Unit) => r = v) (fun _ => PoB D cy ad A σ1) A aa) A := hrun
      refine va_calli hrun hS (fun _ _ h => h) (fun _ h => h) (fun r u t H1 locs1 ht hvm hw hB hz hk hS1 => ?_)
      have h2 : Rp D cy ad A σ1 H1 := by rw [← ht]; exact hB.2
      subst hw
      exact ih tl ls (.int r :: rs) σ1 H1 locs1 lsA (pc + 3) hsx hnx hL h2 hS1 h
    | none, _, h => exact (nsm h).elim
    | some (.long _), _, h => exact (nsm h).elim
    | some (.float _), _, h => exact (nsm h).elim
    | some (.double _), _, h => exact (nsm h).elim
    | some .null, _, h => exact (nsm h).elim
    | some (.ref _), _, h => exact (nsm h).elim
    | some (.retAddr _), _, h => exact (nsm h).elim
  · match o, hrun, h with
    | some (.long v), hrun, h =>
      have hrun : va_Run p l e R s m args below meth c H locs cells slots 0 0 (F0 m pc lsA st0) (rs.map (tr ad)) (va_Ql (fun r (_ : Unit) => r = v) (fun _ => PoB D cy ad A σ1) A aa) A := hrun
      refine va_calll hrun hS (fun _ _ h => h) (fun _ h => h) (fun r u t H1 locs1 ht hvm hw hB hz hk hS1 => ?_)
      have h2 : Rp D cy ad A σ1 H1 := by rw [← ht]; exact hB.2
      subst hw
      exact ih tl ls (.long r :: rs) σ1 H1 locs1 lsA (pc + 3) hsx hnx hL h2 hS1 h
    | none, _, h => exact (nsm h).elim
    | some (.int _), _, h => exact (nsm h).elim
    | some (.float _), _, h => exact (nsm h).elim
    | some (.double _), _, h => exact (nsm h).elim
    | some .null, _, h => exact (nsm h).elim
    | some (.ref _), _, h => exact (nsm h).elim
    | some (.retAddr _), _, h => exact (nsm h).elim
theorem bk_some {t : Nat} {o : Rs} {r : List Value} {K : List Value → Sg → Rs} {q : Option Value × Sg} (h : bk t o r K = some q) : ∃ v σ1, o = some (v, σ1) := by
  cases o with
  | none =>
    unfold bk at h
    dsimp only at h
    split at h <;> exact (nsm h).elim
  | some w => exact ⟨w.1, w.2, rfl⟩
theorem good_ws {x : Nat} (h : Cond.code (mY x) (mby x) (mmL x) (mret x) ∈ lw_tbl) : GoodIn TBg (mws x) := by
  intro w hw
  have h1 : w ∈ TBg := by
    rcases List.mem_cons.mp hw with e | e
    · rw [e]; exact mem_good h rfl
    · exact e
  exact ⟨h1, good_of_word (List.mem_filter.mp h1).2⟩
theorem good_1 {w : Cond} (h : w ∈ lw_tbl) (g : goodWord w = true) : w ∈ TBg ∧ ((w.onTables && w.keeps) = true ∨ ∃ ty, w = .arrayClass ty) := ⟨mem_good h g, good_of_word g⟩
set_option maxHeartbeats 4000000 in
/-- a call -/
theorem sim_ivk (C0 : Cx p R s m args c sc D cy ad A cc mL own d) (hcr : cells ≤ R.cells ∧ slots ≤ R.slots) (hM : CalOK l D cy ad A cal d) (hch : chn cd = true) (hdc : okD cc cd = true) (hok : cd.all (okI own mL) = true) (hAll : ∀ k, k < 340 → okA k = true) {q : Option Value × Sg} {n : Nat}
    (ih : Go p l e R s m args below meth c cells slots Q sc D cy ad A mL cd cal q n)
    {pc len x y : Nat} {z : Int32} {tb : List (Int32 × Nat)} {ins : Instr} {tl : Cod} {ls st : List Value} {σ : Sg} {H : Heap} {locs : List Loc} {lsA : Array Slot} {i : Nat}
    (hins : ins = .invokevirtual i ∨ ins = .invokestatic i) (hI : okI own mL (pc, ins, len, x, y, z, tb) = true) (hdg : decode cc pc = .ok (ins, len)) (hsx : Suf cd tl) (hnx : hdp (pc + len) tl)
    (hL : Lr ad ls lsA mL) (hR : Rp D cy ad A σ H) (hS : va_S A s.heap H locs) (h : ivk cal x y st σ (fun r σ => run sc cal cd n tl ls r σ) = some q) :
    W p l e R s m args below meth c H locs cells slots Q (F0 m pc lsA (st.map (tr ad))) := by
  obtain ⟨⟨hx, hb, hml, hown, hts⟩, hK, hF0, -, hN, hroom⟩ := C0
  have hwd : ∀ {pp : Nat} {w : Qw}, wdi pp w = true → goodWord (dw w) = true → (dw w).before args s = true := fun h1 h2 => hts _ (mem_good (wd_of h1) h2)
  unfold ivk at h
  dsimp only at h
  split at h
  · -- arraycopy
    rename_i hx9
    have hx9 := beqN hx9
    subst hx9
    split at h
    · rename_i nn dp a sp a0
      rcases hins with rfl | rfl
      · rcases (okI_vi hI).2 with h2 | h2
        · exact absurd h2 (by decide)
        · exact absurd h2.1 (by decide)
      obtain ⟨rfl, h1⟩ := okI_st hI
      have hw : Cond.methodLink (ocl own) i arraycopyName ∈ lw_tbl := wx_of (show wdx (pl1 tb) (.methodLink (ocl own) i arraycopyName) = true from h1)
      unfold acp at h
      obtain ⟨k0, h⟩ := gd_inv h
      obtain ⟨k1, h⟩ := gd_inv h
      split at h
      · exact (nsm h).elim
      rename_i hb5
      simp only [not_or, Nat.not_lt] at hb5
      obtain ⟨b1, b2, b3, b4, b5⟩ := hb5
      refine va_copyi (D := D) (cl := vwCl) (A := A) (tys := tyA cy) (ws := wsA cy ad σ) (H0 := s.heap) (own := ocl own) (index := i) (a := ad a) (a0 := ad a0) (rest := []) (sp := sp) (dp := dp) (n := nn) (ty := .int) hx hb (hml.trans hL.sz.symm) hown
        (hts _ (mem_good hw rfl)) (hts _ (mem_good (spx_in (Cond.native arraycopyName) (by decide +kernel)) rfl)) (hts _ (mem_good (spx_in (Cond.static arraycopyName) (by decide +kernel)) rfl)) (hts _ (mem_good (qs_in (6, 16, 0, 0) (by decide +kernel)) rfl))
        hK hR.1 hR.2 hS (a0 - 4) (a - 4) 2 2 (at_int k0 (.inr (.inr rfl))) (at_int k1 (.inr (.inr rfl))) rfl rfl rfl b1 b2 b3 b4 b5 (fun _ _ => rfl) (by omega) ?_ hdg (fun H1 locs1 hP1 hD1 hS1 => ?_)
      · have := hroom.2
        have e : nativeFrameWords "java/lang/System" "arraycopy" 5 + 11 ≤ 60 := by decide +kernel
        simp only [List.map_nil, List.sum_nil]
        omega
      · rw [set_aC k1] at hP1 hD1
        exact ih tl ls [] _ H1 locs1 lsA (pc + 3) hsx hnx hL ⟨hP1, hD1⟩ hS1 h
    · exact (nsm h).elim
  rename_i e9
  split at h
  · -- min
    rename_i hx9
    have hx9 := beqN hx9
    subst hx9
    obtain ⟨a, b, r, rfl, hr, h⟩ := mm2_inv h
    rcases hins with rfl | rfl
    · rcases (okI_vi hI).2 with h2 | h2
      · exact absurd h2 (by decide)
      · exact absurd h2.2.1 (by decide)
    obtain ⟨rfl, h1⟩ := okI_st hI
    have h3 : (bif decide (z = 0) then wdi (pl1 tb) (1, own, i, 55) else wdi (pl1 tb) (2, own, i, 55)) = true := (an h1).2
    have hz : wdi (pl1 tb) (1, own, i, 55) = true := by
      cases hz : decide (z = 0) with
      | true => rw [hz] at h3; exact h3
      | false =>
        rw [hz] at h3
        exact absurd (List.mem_of_getElem? (of_decide_eq_true h3)) (by
          have : ∀ q ∈ QS, (match q with | (2, _, _, x) => !(Nat.beq x 55 || Nat.beq x 56) | _ => true) = true := by decide +kernel
          intro hq
          exact absurd (show false = true from this _ hq) (by decide))
    refine va_mmin (R := R) (own := ocl own) (index := i) (x := a) (y := b) (rest := r.map (tr ad)) hx hb (hml.trans hL.sz.symm) hown (hwd hz rfl) (hwd (pp := (mpl 55).2.2.1) (w := (3, 55, 0, 0)) (by decide +kernel) rfl) (hwd (pp := (mpl 55).2.1) (w := (6, 15, 0, 0)) (by decide +kernel) rfl) (hwd (pp := (mpl 55).1) (w := (0, 55, 0, 0)) (by decide +kernel) rfl) (by omega) ?_ hcr.1 hcr.2 hdg ?_
    · have := cat_le (r := r.map (tr ad)) (by simpa using hr)
      omega
    · exact ih tl ls (.int (mnI a b) :: r) σ H locs lsA (pc + 3) hsx hnx hL hR hS h
  rename_i e5
  split at h
  · -- max
    rename_i hx9
    have hx9 := beqN hx9
    subst hx9
    obtain ⟨a, b, r, rfl, hr, h⟩ := mm2_inv h
    rcases hins with rfl | rfl
    · rcases (okI_vi hI).2 with h2 | h2
      · exact absurd h2 (by decide)
      · exact absurd h2.2.1 (by decide)
    obtain ⟨rfl, h1⟩ := okI_st hI
    have h3 : (bif decide (z = 0) then wdi (pl1 tb) (1, own, i, 56) else wdi (pl1 tb) (2, own, i, 56)) = true := (an h1).2
    have hz : wdi (pl1 tb) (1, own, i, 56) = true := by
      cases hz : decide (z = 0) with
      | true => rw [hz] at h3; exact h3
      | false =>
        rw [hz] at h3
        exact absurd (List.mem_of_getElem? (of_decide_eq_true h3)) (by
          have : ∀ q ∈ QS, (match q with | (2, _, _, x) => !(Nat.beq x 55 || Nat.beq x 56) | _ => true) = true := by decide +kernel
          intro hq
          exact absurd (show false = true from this _ hq) (by decide))
    refine va_mmax (R := R) (own := ocl own) (index := i) (x := a) (y := b) (rest := r.map (tr ad)) hx hb (hml.trans hL.sz.symm) hown (hwd hz rfl) (hwd (pp := (mpl 56).2.2.1) (w := (3, 56, 0, 0)) (by decide +kernel) rfl) (hwd (pp := (mpl 56).2.1) (w := (6, 15, 0, 0)) (by decide +kernel) rfl) (hwd (pp := (mpl 56).1) (w := (0, 56, 0, 0)) (by decide +kernel) rfl) (by omega) ?_ hcr.1 hcr.2 hdg ?_
    · have := cat_le (r := r.map (tr ad)) (by simpa using hr)
      omega
    · exact ih tl ls (.int (mxI a b) :: r) σ H locs lsA (pc + 3) hsx hnx hL hR hS h
  rename_i e6
  split at h
  · rename_i hy
    obtain ⟨hy1, hy2⟩ := an hy
    have hy1 := Nat.le_of_ble_eq_true hy1
    have hy2 := Nat.le_of_ble_eq_true hy2
    have hcat : (((st.drop y).map (tr ad)).map fun v => v.category).sum ≤ 8 := cat_le (by simpa using hy2)
    have hst : st.map (tr ad) = (((st.take y).reverse).map (tr ad)).reverse ++ (st.drop y).map (tr ad) := by
      rw [← List.map_reverse, List.reverse_reverse, ← List.map_append, List.take_append_drop]
    have hln : (((st.take y).reverse).map (tr ad)).length = y := by simp; omega
    generalize (st.take y).reverse = as at h hst hln
    generalize st.drop y = rs at h hst hcat hy2
    have hpre : ∀ U : State, U.heap = H → s.WarmedH U.vm → PreB D cy ad A σ U := fun U hU hW =>
      ⟨va_K.moved hW.alike hK, by rw [hU]; exact hR, by rw [hU]; exact hF0.kept hW.alike (fun a h1 h2 => hS.2.1 a h1 h2), hN.warm hW⟩
    unfold thk at h
    dsimp only at h
    split at h
    · -- a static method
      rename_i hk
      rcases hins with rfl | rfl
      · rcases (okI_vi hI).2 with h2 | h2
        · subst h2; exact absurd hk (by decide)
        · have := h2.2.1
          omega
      obtain ⟨rfl, h1⟩ := okI_st hI
      rw [e9] at h1
      rcases orr (show (Nat.beq x 998 || (Nat.blt x 340 && Nat.beq (mkd x) 99 && Nat.beq y (mnp x) && (bif decide (z = 0) then wdi (pl1 tb) (1, own, i, x) else wdi (pl1 tb) (2, own, i, x)))) = true from h1) with h2 | h2
      · have := beqN h2; subst this; exact absurd hk (by decide)
      obtain ⟨h2, hlink⟩ := an h2
      obtain ⟨h2, hyn⟩ := an h2
      have hx3 := bltN (an h2).1
      have hyn := beqN hyn
      obtain ⟨hW0, hB0⟩ := okW_of hAll hx3 (fun e => by subst e; exact absurd hk (by decide)) e5 e6
      obtain ⟨w1, w2, w3, w4, w5, w6⟩ := okW_split hW0
      rw [hk] at w6
      have w6 : wdi (mpl x).2.2.1 (3, x, 0, 0) = true := w6
      obtain ⟨o, σ1, ho⟩ := bk_some h
      rw [ho] at h
      have hMx := hM x as σ o σ1 hx3 hB0 ho
      have hmx := okB_mL hB0
      have hcode : Cond.code (mY x) (mby x) (mmL x) (mret x) ∈ lw_tbl := wd_of w1
      have hini : (Cond.initialized (mY x).cls).before args s = true := by rw [← w3]; exact hwd w2 rfl
      have hdd : (mY x).cls ≠ "java/lang/invoke/MethodHandle" ∧ (mY x).cls ≠ "java/lang/invoke/VarHandle" ∧ (parseMethodDescriptor (mY x).desc).map (fun d => d.parameters.length) = some (mnp x) := ⟨w4.1, w4.2, w5⟩
      have hRR : (mrm d).frames + 1 ≤ R.frames ∧ 8 + (mmL x + 11) + (mrm d).locals ≤ R.locals := ⟨hroom.1, by show 8 + (mmL x + 11) + 60 * d ≤ R.locals; have := hroom.2; omega⟩
      cases hz : decide (z = 0) with
      | true =>
        rw [hz] at hlink
        have hlink : wdi (pl1 tb) (1, own, i, x) = true := hlink
        have cw := va_cwS (R := R) (s := s) (args := args) (own := ocl own) (index := i) (y := mY x) (bytes := mby x) (maxL := mmL x) (mc := 0) (ms := 0) (ret := mret x) (Ts := TBg) (ws := mws x) (ws' := TBg) (rm := mrm d) (mnp x) hts
          (by
            intro w hw
            rcases List.mem_append.mp hw with hw | hw
            · rcases List.mem_cons.mp hw with rfl | hw
              · exact good_1 (wd_of hlink) rfl
              rcases List.mem_cons.mp hw with rfl | hw
              · exact good_1 (wd_of w6) rfl
              rcases List.mem_cons.mp hw with rfl | hw
              · rw [← w3]; exact good_1 (wd_of w2) rfl
              · cases hw
            · exact good_ws hcode w hw) rfl rfl rfl hdd hRR
        rw [hst]
        exact sim_ret hK ih (va_runS (As := as.map (tr ad)) (rest := rs.map (tr ad)) ⟨hx, hb, hml, hown, hts⟩ hMx cw ⟨blindP, fun U hU hW => ⟨rfl, hpre U hU hW⟩⟩ rfl (by rw [hln, hyn]) hL.sz rfl (lv_room hcat) hdg ⟨hcr.1, hcr.2⟩) hsx hnx hL hS h
      | false =>
        rw [hz] at hlink
        have hlink : wdi (pl1 tb) (2, own, i, x) = true := hlink
        have cw := va_cnB (R := R) (s := s) (args := args) (own := ocl own) (host := "NamedToWed") (index := i) (y := mY x) (bytes := mby x) (maxL := mmL x) (mc := 0) (ms := 0) (ret := mret x) (Ts := TBg) (ws := mws x) (ws' := TBg) (rm := mrm d) (mnp x) hts (good_ws hcode) rfl rfl rfl (hN _ (wd_of hlink) rfl) hini hdd hRR
        rw [hst]
        exact sim_ret hK ih (va_runSN (As := as.map (tr ad)) (rest := rs.map (tr ad)) ⟨hx, hb, hml, hown, hts⟩ hMx ⟨cw, hwd w6 rfl, trivial⟩ ⟨blindP, fun U hU hW => ⟨rfl, hpre U hU hW⟩⟩ rfl (by rw [hln, hyn]) hL.sz rfl (lv_room hcat) hdg ⟨hcr.1, hcr.2⟩) hsx hnx hL hS h
    · exact (nsm h).elim
    · -- a method of an object
      rename_i hk99 hk98
      split at h
      · rename_i b as
        obtain ⟨hkb, h⟩ := gd_inv h
        rcases hins with rfl | rfl
        · obtain ⟨rfl, h2⟩ := okI_vi hI
          rcases h2 with h2 | h2
          · subst h2; exact absurd rfl hk98
          obtain ⟨hx3, hk12, hyn, hlink, hsel⟩ := h2
          obtain ⟨hW0, hB0⟩ := okW_of hAll hx3 (fun e => by subst e; exact hk98 rfl) e5 e6
          obtain ⟨w1, w2, w3, w4, w5, w6⟩ := okW_split hW0
          have e99 : Nat.beq (mkd x) 99 = false := by
            cases hq : Nat.beq (mkd x) 99 with
            | false => rfl
            | true => exact absurd (beqN hq) hk99
          rw [e99] at w6
          have w6 : (wdi (mpl x).2.2.1 (4, x, 0, 0) && decide ((vwCl[mkd x]?).map (fun q => q.1) = some (mY x).cls) && (decide ((mY x).name = "<init>") || wdi (mpl x).2.2.2 (5, x, 0, 0))) = true := w6
          obtain ⟨w6, -⟩ := an w6
          obtain ⟨w6, w7⟩ := an w6
          have w7 := of_decide_eq_true w7
          rw [vw_at _ hk12] at w7
          have w7 : ocl (mkd x) = (mY x).cls := Option.some.inj w7
          obtain ⟨o, σ1, ho⟩ := bk_some h
          rw [ho] at h
          have hMx := hM x (.ref b :: as) σ o σ1 hx3 hB0 ho
          have hmx := okB_mL hB0
          have hcode : Cond.code (mY x) (mby x) (mmL x) (mret x) ∈ lw_tbl := wd_of w1
          have hdd : (mY x).cls = (mY x).cls ∧ (mY x).cls ≠ "java/lang/invoke/MethodHandle" ∧ (mY x).cls ≠ "java/lang/invoke/VarHandle" ∧ (parseMethodDescriptor (mY x).desc).map (fun d => d.parameters.length) = some (mnp x) := ⟨rfl, w4.1, w4.2, w5⟩
          have hRR : (mrm d).frames + 1 ≤ R.frames ∧ 8 + (mmL x + 11) + (mrm d).locals ≤ R.locals := ⟨hroom.1, by show 8 + (mmL x + 11) + 60 * d ≤ R.locals; have := hroom.2; omega⟩
          have cw := cwV (R := R) (s := s) (args := args) (own := ocl own) (C := (mY x).cls) (index := i) (y := mY x) (bytes := mby x) (maxL := mmL x) (mc := 0) (ms := 0) (ret := mret x) (Ts := TBg) (ws := mws x) (ws' := TBg) (rm := mrm d) (mnp x) hts
            (by
              intro w hw
              rcases List.mem_append.mp hw with hw | hw
              · rcases List.mem_cons.mp hw with rfl | hw
                · exact good_1 (wd_of hlink) rfl
                rcases List.mem_cons.mp hw with rfl | hw
                · exact good_1 (wd_of w6) rfl
                rcases List.mem_cons.mp hw with rfl | hw
                · exact good_1 (wd_of hsel) rfl
                rcases List.mem_cons.mp hw with rfl | hw
                · rw [← w3]; exact good_1 (wd_of w2) rfl
                · cases hw
              · exact good_ws hcode w hw) rfl rfl rfl hdd hRR
          have hrecv := va_recv hK hR.1 (q0 := b - 4) (a := ad b) (vw_at _ hk12) (at_obj hkb hk12)
          rw [show ((ocl (mkd x), kT (mkd x), nf (mkd x)) : vw_C).1 = (mY x).cls from w7] at hrecv
          rw [hst]
          have hln2 : (as.map (tr ad)).length = mnp x := by
            have : (as.map (tr ad)).length + 1 = y := hln
            omega
          exact sim_ret hK ih (va_runV (As := as.map (tr ad)) (b := ad b) (rest := rs.map (tr ad)) ⟨hx, hb, hml, hown, hts⟩ hMx cw ⟨blindP, hrecv, fun U hU hW => ⟨rfl, hpre U hU hW⟩⟩ rfl hln2 hL.sz (by simp [tr]) (lv_room hcat) hdg ⟨hcr.1, hcr.2⟩) hsx hnx hL hS h
        · obtain ⟨rfl, h1⟩ := okI_st hI
          rw [e9] at h1
          rcases orr (show (Nat.beq x 998 || (Nat.blt x 340 && Nat.beq (mkd x) 99 && Nat.beq y (mnp x) && (bif decide (z = 0) then wdi (pl1 tb) (1, own, i, x) else wdi (pl1 tb) (2, own, i, x)))) = true from h1) with h2 | h2
          · have := beqN h2; subst this; exact absurd rfl hk98
          · exact absurd (beqN (an (an (an h2).1).1).2) hk99
      · exact (nsm h).elim
  · exact (nsm h).elim
end Sim
