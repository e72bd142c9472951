/-! law: tests, parts, choices, in both: what is claimed -/
def JX (q : Nat) (n : Int) (T : Int → Int) (F : Int) : Prop := ∀ (pl o s : Int) (K : KK), n - pl ≤ F → 0 ≤ pl → pl ≤ n → 0 ≤ o → o ≤ 6 → 0 ≤ s → s ≤ pl → KOk s K → ∃ (v pl' s' : Int) (K' : KK), -10000 < v ∧ v ≤ 0 ∧ (v = 0 → pl < pl' ∧ pl' ≤ n ∧ s < s' ∧ s' - s ≤ pl' - pl ∧ kAg s K K' ∧ KOk s' K' ∧ ∀ k, 16 - 2 * o ≤ k → WE K'.1 K'.2.1 true s s' k) ∧
  (∀ (d : Nat) σ, 35 ≤ (d : Int) + 4 * o → CL q n T pl s K σ → ∃ σ', f_LawReader_readTest d q (zI o) σ = rI (zI v) σ' ∧ Fr (SLw q) σ σ' ∧ (v < 0 → SzOk q σ') ∧ (v = 0 → CL q n T pl' s' K' σ')) ∧
  (∀ (d : Nat) τ wt Wt, 1 ≤ wt → wt ≤ pl → BW wt Wt → ¬ (2 ≤ wtop wt Wt ∧ wtop wt Wt ≤ 6) → ML n T pl o s K wt Wt τ → ∃ τ' e, lawC d τ = (if v = 0 then lawE d e τ' else rI (zI 0) τ') ∧ Fr SLm τ τ' ∧ (v < 0 → τ'.1 102 10 = zI v) ∧ (v = 0 → ML n T pl' o s' K' wt Wt τ'))
def JP (q : Nat) (n : Int) (T : Int → Int) (F : Int) : Prop := ∀ (pl o s : Int) (K : KK), n - pl ≤ F → 0 ≤ pl → pl ≤ n → 0 ≤ o → o ≤ 6 → 0 ≤ s → s ≤ pl → KOk s K → ∃ (v pl' s' : Int) (K' : KK), -10000 < v ∧ v ≤ 0 ∧ (v = 0 → pl < pl' ∧ pl' ≤ n ∧ s < s' ∧ s' - s ≤ pl' - pl ∧ kAg s K K' ∧ KOk s' K' ∧ chA n T pl' ≠ 38 ∧ ∀ k, 16 - 2 * o ≤ k → WE K'.1 K'.2.1 true s s' k) ∧
  (∀ (d : Nat) σ, 36 ≤ (d : Int) + 4 * o → CL q n T pl s K σ → ∃ σ', f_LawReader_readPart d q (zI o) σ = rI (zI v) σ' ∧ Fr (SLw q) σ σ' ∧ (v < 0 → SzOk q σ') ∧ (v = 0 → CL q n T pl' s' K' σ')) ∧
  (∀ (d : Nat) τ wt Wt, 1 ≤ wt → wt ≤ pl → BW wt Wt → ¬ (2 ≤ wtop wt Wt ∧ wtop wt Wt ≤ 6) → wtop wt Wt ≠ 10 → wtop wt Wt ≠ 11 → ML n T pl o s K wt Wt τ → ∃ τ', lawC d τ = (if v = 0 then lawD d τ' else rI (zI 0) τ') ∧ Fr SLm τ τ' ∧ (v < 0 → τ'.1 102 10 = zI v) ∧ (v = 0 → LzP n T pl' o s' K' wt Wt τ'))
def JC (q : Nat) (n : Int) (T : Int → Int) (F : Int) : Prop := ∀ (pl o s : Int) (K : KK), n - pl ≤ F → 0 ≤ pl → pl ≤ n → 0 ≤ o → o ≤ 6 → 0 ≤ s → s ≤ pl → KOk s K → ∃ (v pl' s' : Int) (K' : KK), -10000 < v ∧ v ≤ 0 ∧ (v = 0 → pl < pl' ∧ pl' ≤ n ∧ s < s' ∧ s' - s ≤ pl' - pl ∧ kAg s K K' ∧ KOk s' K' ∧ chA n T pl' ≠ 38 ∧ chA n T pl' ≠ 124 ∧ ∀ k, 16 - 2 * o ≤ k → WE K'.1 K'.2.1 true s s' k) ∧
  (∀ (d : Nat) σ, 37 ≤ (d : Int) + 4 * o → CL q n T pl s K σ → ∃ σ', f_LawReader_readChoice d q (zI o) σ = rI (zI v) σ' ∧ Fr (SLw q) σ σ' ∧ (v < 0 → SzOk q σ') ∧ (v = 0 → CL q n T pl' s' K' σ')) ∧
  (∀ (d : Nat) τ wt Wt, 1 ≤ wt → wt ≤ pl → BW wt Wt → wtop wt Wt = 13 → ML n T pl o s K wt Wt τ → ∃ τ', lawC d τ = (if v = 0 then lawD d τ' else rI (zI 0) τ') ∧ Fr SLm τ τ' ∧ (v < 0 → τ'.1 102 10 = zI v) ∧ (v = 0 → LzC n T pl' o s' K' wt Wt τ'))
/-! a test -/
noncomputable def cCmp (d q : Nat) (a2 : Int32) (σ1 : Sg) : Rs := cI (f_LawReader_readSum d q a2 σ1) fun v12 σ11 => if v12 = 0 then (cI (f_Tape_now d σ11) fun v14 σ13 => if v14 = 60 then (let σ15 := sI σ13 5 4 ((σ13.1 5 4) + 1); cI (f_LawReader_readSum d q a2 σ15) fun v17 σ16 => gdK 2 q (cV (f_Law_emit d q ((v14.toUInt32 % 65536).toInt32) 0 σ16) fun σ18 => rI v17 σ18)) else (if v14 = 62 then (let σ19 := sI σ13 5 4 ((σ13.1 5 4) + 1); cI (f_LawReader_readSum d q a2 σ19) fun v21 σ20 => gdK 2 q (cV (f_Law_emit d q ((v14.toUInt32 % 65536).toInt32) 0 σ20) fun σ22 => rI v21 σ22)) else (if v14 = 61 then (let σ23 := sI σ13 5 4 ((σ13.1 5 4) + 1); cI (f_LawReader_readSum d q a2 σ23) fun v25 σ24 => gdK 2 q (cV (f_Law_emit d q ((v14.toUInt32 % 65536).toInt32) 0 σ24) fun σ26 => rI v25 σ26)) else (cI (f_Tape_fault d 1 σ13) fun v28 σ27 => rI v28 σ27)))) else (rI v12 σ11)
noncomputable def cOpn (d q : Nat) (a2 v2 : Int32) (σ1 : Sg) : Rs := if v2 = 40 then (cI (f_LawReader_readBracket d q (a2 + 1) σ1) fun v6 σ5 => rI v6 σ5) else (if v2 = 33 then (let σ7 := sI σ1 5 4 ((σ1.1 5 4) + 1); cI (f_LawReader_readTest d q (a2 + 1) σ7) fun v9 σ8 => gdK 2 q (cV (f_Law_emit d q 33 0 σ8) fun σ10 => rI v9 σ10)) else cCmp d q a2 σ1)
theorem cTest_eq (d q : Nat) (a2 : Int32) (σ : Sg) : f_LawReader_readTest (d + 1) q a2 σ = cI (f_Tape_now d σ) fun v2 σ1 => if v2 = 33 then (if a2 = 6 then (cI (f_Tape_fault d 5 σ1) fun v4 σ3 => rI v4 σ3) else cOpn d q a2 v2 σ1) else (if v2 = 40 then (if a2 = 6 then (cI (f_Tape_fault d 5 σ1) fun v30 σ29 => rI v30 σ29) else cOpn d q a2 v2 σ1) else cOpn d q a2 v2 σ1) := f_LawReader_readTest_eq d q a2 σ
theorem cTest_sp {q : Nat} (hq : isL q) {n : Int} {T : Int → Int} {pl s o : Int} {K : KK} {σ : Sg} (h : CL q n T pl s K σ) (hx : TX n T) (p0 : 0 ≤ pl) (p1 : pl ≤ n) (o0 : 0 ≤ o) (o6 : o ≤ 6) {d : Nat} : f_LawReader_readTest (d + 2) q (zI o) σ = if chA n T pl = 33 ∧ o < 6 then (cI (f_LawReader_readTest (d + 1) q (zI (o + 1)) (sI σ 5 4 (zI (pl + 1)))) fun v9 σ8 => cV (f_Law_emit (d + 1) q (zI 33) (zI 0) σ8) fun σ10 => rI v9 σ10) else if chA n T pl = 40 ∧ o < 6 then (cI (f_LawReader_readBracket (d + 1) q (zI (o + 1)) σ) fun v6 σ5 => rI v6 σ5) else if chA n T pl = 33 ∨ chA n T pl = 40 then rI (zI (-5000 - pl)) σ else cCmp (d + 1) q (zI o) σ := by
  obtain ⟨c0, c1, c2⟩ := hx.ch p0
  have o1 : zI o + 1 = zI (o + 1) := by rw [show (1 : Int32) = zI 1 from zI_lit 1, zI_add]
  have op : cOpn (d + 1) q (zI o) (zI (chA n T pl)) σ = if chA n T pl = 40 then (cI (f_LawReader_readBracket (d + 1) q (zI (o + 1)) σ) fun v6 σ5 => rI v6 σ5) else if chA n T pl = 33 then (cI (f_LawReader_readTest (d + 1) q (zI (o + 1)) (sI σ 5 4 (zI (pl + 1)))) fun v9 σ8 => cV (f_Law_emit (d + 1) q (zI 33) (zI 0) σ8) fun σ10 => rI v9 σ10) else cCmp (d + 1) q (zI o) σ := by
    unfold cOpn
    rw [show (40 : Int32) = zI 40 from zI_lit 40, ifEq (by omega) (by decide), show (33 : Int32) = zI 33 from zI_lit 33, ifEq (by omega) (by decide), o1]
    dsimp only
    rw [h.1.nx, zI_0]
    simp only [gdK_of hq.s0]
  rw [cTest_eq, h.1.now hx p0 p1, cI_rI, show (33 : Int32) = zI 33 from zI_lit 33, ifEq (by omega) (by decide), show (40 : Int32) = zI 40 from zI_lit 40, ifEq (by omega) (by decide), show (6 : Int32) = zI 6 from zI_lit 6, ifEq (by omega) (by decide), op, show (5 : Int32) = zI 5 from zI_lit 5, tfaultZ h.1.2, cI_rI]
  by_cases z : chA n T pl = 33
  · rw [if_pos z]
    by_cases z6 : o = 6
    · rw [if_pos z6, if_neg (by omega), if_neg (by omega), if_pos (Or.inl z)]; rfl
    · rw [if_neg z6, if_neg (by omega), if_pos z, if_pos ⟨z, by omega⟩]
  · rw [if_neg z]
    by_cases z2 : chA n T pl = 40
    · rw [if_pos z2]
      by_cases z6 : o = 6
      · rw [if_pos z6, if_neg (by omega), if_neg (by omega), if_pos (Or.inr z2)]; rfl
      · rw [if_neg z6, if_pos z2, if_neg (fun y => z y.1), if_pos ⟨z2, by omega⟩]
    · rw [if_neg z2, if_neg z2, if_neg z, if_neg (fun y => z y.1), if_neg (fun y => z2 y.1), if_neg (fun y => y.elim z z2)]
theorem cI_cV1 {o : Rs} {K : Int32 → Sg → Rs} : cI (cV o fun σ => rI (zI 1) σ) K = cV o fun σ => K (zI 1) σ := by
  unfold cV
  split
  · rfl
  · rfl
def cmpI (c : Int) : Int := if c = 60 then 7 else if c = 62 then 8 else if c = 61 then 9 else -1
theorem mComp_sp {n : Int} {T : Int → Int} {pl : Int} {τ : Sg} (h : MP n T pl τ) (hx : TX n T) (p0 : 0 ≤ pl) (p1 : pl ≤ n) {d : Nat} (F : Sg → Rs) : (cI (cI (rI (zI 1) τ) fun v2 σ1 => if v2 = 0 then (rZ 0 σ1) else (cI (f_M_here (d + 7) σ1) fun v4 σ3 => if v4 = 60 then (if (7 : Int32) = ((-1)) then (cI (f_M_wrongAt (d + 7) 1 (σ3.1 102 8) σ3) fun v6 σ5 => rZ v6 σ5) else (let σ7 := sI σ3 102 8 ((σ3.1 102 8) + 1); cI (f_M_readsSum (d + 7) σ7) fun v9 σ8 => if v9 = 0 then (rZ 0 σ8) else (cV (f_M_notes (d + 7) 7 0 σ8) fun σ10 => cV (f_M_endsPiece (d + 7) σ10) fun σ11 => rZ 1 σ11))) else (cI (f_M_here (d + 7) σ3) fun v13 σ12 => if v13 = 62 then (if (8 : Int32) = ((-1)) then (cI (f_M_wrongAt (d + 7) 1 (σ12.1 102 8) σ12) fun v15 σ14 => rZ v15 σ14) else (let σ16 := sI σ12 102 8 ((σ12.1 102 8) + 1); cI (f_M_readsSum (d + 7) σ16) fun v18 σ17 => if v18 = 0 then (rZ 0 σ17) else (cV (f_M_notes (d + 7) 8 0 σ17) fun σ19 => cV (f_M_endsPiece (d + 7) σ19) fun σ20 => rZ 1 σ20))) else (cI (f_M_here (d + 7) σ12) fun v22 σ21 => if v22 = 61 then (if (9 : Int32) = ((-1)) then (cI (f_M_wrongAt (d + 7) 1 (σ21.1 102 8) σ21) fun v24 σ23 => rZ v24 σ23) else (let σ25 := sI σ21 102 8 ((σ21.1 102 8) + 1); cI (f_M_readsSum (d + 7) σ25) fun v27 σ26 => if v27 = 0 then (rZ 0 σ26) else (cV (f_M_notes (d + 7) 9 0 σ26) fun σ28 => cV (f_M_endsPiece (d + 7) σ28) fun σ29 => rZ 1 σ29))) else (if (((-1)) : Int32) = ((-1)) then (cI (f_M_wrongAt (d + 7) 1 (σ21.1 102 8) σ21) fun v31 σ30 => rZ v31 σ30) else (let σ32 := sI σ21 102 8 ((σ21.1 102 8) + 1); cI (f_M_readsSum (d + 7) σ32) fun v34 σ33 => if v34 = 0 then (rZ 0 σ33) else (cV (f_M_notes (d + 7) (-1) 0 σ33) fun σ35 => cV (f_M_endsPiece (d + 7) σ35) fun σ36 => rZ 1 σ36)))))) ) fun v18 σ17 => if v18 = 0 then (rZ 0 σ17) else F σ17) = if cmpI (chA n T pl) = -1 then rI (zI 0) (sI τ 102 10 (zI (-1000 - pl))) else (cI (f_M_readsSum (d + 7) (sI τ 102 8 (zI (pl + 1)))) fun v9 σ8 => if v9 = 0 then (rI (zI 0) σ8) else (cV (f_M_notes (d + 7) (zI (cmpI (chA n T pl))) (zI 0) σ8) fun σ10 => cV (f_M_endsPiece (d + 7) σ10) fun σ11 => F σ11)) := by
  obtain ⟨c0, c1, -⟩ := hx.ch p0
  have H := h.here hx p0 p1 (d := d + 6)
  have H : f_M_here (d + 7) τ = rI (zI (chA n T pl)) τ := H
  have fin : ∀ (w : Int) (v : Int32), v = zI w → (cI (cI (f_M_readsSum (d + 7) (sI τ 102 8 (zI (pl + 1)))) fun v9 σ8 => if v9 = 0 then (rZ 0 σ8) else (cV (f_M_notes (d + 7) v 0 σ8) fun σ10 => cV (f_M_endsPiece (d + 7) σ10) fun σ11 => rZ 1 σ11)) fun v18 σ17 => if v18 = 0 then (rZ 0 σ17) else F σ17) = (cI (f_M_readsSum (d + 7) (sI τ 102 8 (zI (pl + 1)))) fun v9 σ8 => if v9 = 0 then (rI (zI 0) σ8) else (cV (f_M_notes (d + 7) (zI w) (zI 0) σ8) fun σ10 => cV (f_M_endsPiece (d + 7) σ10) fun σ11 => F σ11)) := fun w v e => by
    subst e
    cases f_M_readsSum (d + 7) (sI τ 102 8 (zI (pl + 1))) with
    | none => rfl
    | some p =>
      obtain ⟨p1, p2⟩ := p
      cases p1 with
      | none => rfl
      | some u =>
        cases u with
        | int u =>
          show cI (if u = 0 then (rZ 0 p2) else (cV (f_M_notes (d + 7) (zI w) 0 p2) fun σ10 => cV (f_M_endsPiece (d + 7) σ10) fun σ11 => rZ 1 σ11)) _ = (if u = 0 then (rI (zI 0) p2) else (cV (f_M_notes (d + 7) (zI w) (zI 0) p2) fun σ10 => cV (f_M_endsPiece (d + 7) σ10) fun σ11 => F σ11))
          by_cases z : u = 0
          · rw [if_pos z, if_pos z]; rfl
          · rw [if_neg z, if_neg z, zI_0]
            cases f_M_notes (d + 7) (zI w) (zI 0) p2 with
            | none => rfl
            | some p3 =>
              obtain ⟨p4, p5⟩ := p3
              cases p4 with
              | none =>
                show cI (cV (f_M_endsPiece (d + 7) p5) fun σ11 => rZ 1 σ11) _ = cV (f_M_endsPiece (d + 7) p5) fun σ11 => F σ11
                rw [show (fun σ11 => rZ 1 σ11) = fun σ11 => rI (zI 1) σ11 from rfl, cI_cV1]
                rfl
              | some _ => rfl
        | _ => rfl
  rw [cI_rI, if1z, H, cI_rI, show (60 : Int32) = zI 60 from zI_lit 60, ifEq (by omega) (by decide)]
  unfold cmpI
  by_cases z1 : chA n T pl = 60
  · rw [if_pos z1, if_pos z1, if_neg (by decide), if_neg (by decide)]
    dsimp only
    rw [h.nx]
    exact fin 7 7 (zI_lit 7)
  · rw [if_neg z1, if_neg z1, H, cI_rI, show (62 : Int32) = zI 62 from zI_lit 62, ifEq (by omega) (by decide)]
    by_cases z2 : chA n T pl = 62
    · rw [if_pos z2, if_pos z2, if_neg (by decide), if_neg (by decide)]
      dsimp only
      rw [h.nx]
      exact fin 8 8 (zI_lit 8)
    · rw [if_neg z2, if_neg z2, H, cI_rI, show (61 : Int32) = zI 61 from zI_lit 61, ifEq (by omega) (by decide)]
      by_cases z3 : chA n T pl = 61
      · rw [if_pos z3, if_pos z3, if_neg (by decide), if_neg (by decide)]
        dsimp only
        rw [h.nx]
        exact fin 9 9 (zI_lit 9)
      · rw [if_neg z3, if_neg z3, if_pos rfl, if_pos rfl, h.2.1, show (1 : Int32) = zI 1 from zI_lit 1, wrongAt_sp, cI_rI, rZ_z0, cI_rI, if0z]
        rfl
