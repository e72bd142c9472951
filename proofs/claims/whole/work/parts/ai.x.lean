/-! law: a clause, in both -/
theorem WX_cg2 {c w c' w' : Int → Int} : ∀ {f : Nat} {b : Bool} {p q k : Int}, WX c w f b p q k → (∀ j, p ≤ j → j < q → c' j = c j ∧ (c j = 97 ∨ c j = 38 ∨ c j = 124 → w' j = w j)) → WX c' w' f b p q k
  | 0, _, _, _, _, h, _ => False.elim h
  | f + 1, false, p, q, k, h, e => by
    have hl := (WX_lt h).1
    obtain ⟨h1, ⟨h2, h3⟩ | ⟨m, a, b, o⟩⟩ := h
    · refine ⟨h1, Or.inl ⟨h2, ?_⟩⟩
      obtain ⟨e1, e2⟩ := e p (Int.le_refl _) hl
      rw [e1]
      rcases h3 with h3 | h3
      · exact Or.inl h3
      · rw [e2 (Or.inl h3.1)]; exact Or.inr h3
    · have la := (WX_lt a).1
      have lb := (WX_lt b).1
      refine ⟨h1, Or.inr ⟨m, WX_cg2 a fun j j0 j1 => e j j0 (by omega), WX_cg2 b fun j j0 j1 => e j (by omega) (by omega), ?_⟩⟩
      rw [(e (q - 1) (by omega) (by omega)).1]; exact o
  | f + 1, true, p, q, k, h, e => by
    obtain ⟨h1, ⟨m, a, b, o⟩ | ⟨a, o⟩ | ⟨m, a, o, z, b⟩⟩ := h
    · have la := (WX_lt a).1
      have lb := (WX_lt b).1
      refine ⟨h1, Or.inl ⟨m, WX_cg2 a fun j j0 j1 => e j j0 (by omega), WX_cg2 b fun j j0 j1 => e j (by omega) (by omega), ?_⟩⟩
      rw [(e (q - 1) (by omega) (by omega)).1]; exact o
    · have la := (WX_lt a).1
      refine ⟨h1, Or.inr (Or.inl ⟨WX_cg2 a fun j j0 j1 => e j j0 (by omega), ?_⟩)⟩
      rw [(e (q - 1) (by omega) (by omega)).1]; exact o
    · have la := (WX_lt a).1
      have lb := (WX_lt b).1
      obtain ⟨e1, e2⟩ := e m (by omega) (by omega)
      refine ⟨h1, Or.inr (Or.inr ⟨m, WX_cg2 a fun j j0 j1 => e j j0 (by omega), ?_, ?_, WX_cg2 b fun j j0 j1 => e j (by omega) (by omega)⟩)⟩
      · rw [e1]; exact o
      · rw [e2 (by omega)]; exact z
noncomputable def cTo (d q : Nat) (v3 v16 : Int32) (σ15 : Sg) : Rs := gfS 2 q 4 fun v17 => gfI 2 q 5 σ15 fun v18 => stI v17 v3 v18 σ15 fun σ19 => gfI 2 q 0 σ19 fun v20 => pfI 2 q 0 (v20 + 1) σ19 fun σ21 => rI v16 σ21
noncomputable def cBrk (d q : Nat) (v3 : Int32) (σ9 : Sg) : Rs := gfS 2 q 3 fun v10 => gfI 2 q 5 σ9 fun v11 => stI v10 v3 v11 σ9 fun σ12 => cI (f_Tape_now d σ12) fun v14 σ13 => if v14 = 40 then (cI (f_LawReader_readBracket d q 1 σ13) fun v16 σ15 => cTo d q v3 v16 σ15) else (cI (f_Tape_fault d 1 σ13) fun v23 σ22 => cTo d q v3 v23 σ22)
noncomputable def cHd (d q : Nat) (v2 : Int32) (σ1 : Sg) : Rs := gfI 2 q 0 σ1 fun v3 => if v3 < 16 then (let σ4 := sI σ1 5 4 ((σ1.1 5 4) + 1); gfS 2 q 1 fun v5 => stI v5 v3 v2 σ4 fun σ6 => gfS 2 q 2 fun v7 => gfI 2 q 5 σ6 fun v8 => stI v7 v3 v8 σ6 fun σ9 => if v2 = 120 then (if (0 : Int32) = 0 then cBrk d q v3 σ9 else (rI 0 σ9)) else (cI (f_LawReader_readSum d q 0 σ9) fun v30 σ29 => if v30 = 0 then cBrk d q v3 σ29 else (rI v30 σ29))) else (cI (f_Tape_fault d 4 σ1) fun v51 σ50 => rI v51 σ50)
theorem cClause_eq (d q : Nat) (σ : Sg) : f_LawReader_readClause (d + 1) q σ = cI (f_Tape_now d σ) fun v2 σ1 => if v2 = 119 then cHd d q v2 σ1 else (if v2 = 98 then cHd d q v2 σ1 else (if v2 = 100 then cHd d q v2 σ1 else (if v2 = 120 then cHd d q v2 σ1 else (cI (f_Tape_fault d 1 σ1) fun v200 σ199 => rI v200 σ199)))) := f_LawReader_readClause_eq d q σ
noncomputable def mCnd (d : Nat) (σ9 : Sg) : Rs := bnd (σ9.1 102 15) 16 (let σ10 := sI σ9 113 (ix (σ9.1 102 15)) (σ9.1 102 13); cI (f_M_readsCondition d σ10) fun v12 σ11 => if v12 = 0 then (rZ 0 σ11) else (bnd (σ11.1 102 15) 16 (let σ13 := sI σ11 114 (ix (σ11.1 102 15)) (σ11.1 102 13); let σ14 := sI σ13 102 15 ((σ13.1 102 15) + 1); rZ 1 σ14)))
noncomputable def mHd (d : Nat) (v2 : Int32) (σ1 : Sg) : Rs := if (σ1.1 102 15) = 16 then (cI (f_M_wrongAt d 4 (σ1.1 102 8) σ1) fun v4 σ3 => rZ v4 σ3) else (bnd (σ1.1 102 15) 16 (let σ5 := sI σ1 111 (ix (σ1.1 102 15)) v2; let σ6 := sI σ5 102 8 ((σ5.1 102 8) + 1); bnd (σ6.1 102 15) 16 (let σ7 := sI σ6 112 (ix (σ6.1 102 15)) (σ6.1 102 13); let σ8 := sI σ7 102 12 0; let σ9 := sI σ8 102 14 0; if v2 = 120 then mCnd d σ9 else (cI (f_M_readsSum d σ9) fun v16 σ15 => if v16 = 0 then (rZ 0 σ15) else mCnd d σ15))))
theorem mClause_eq (d : Nat) (σ : Sg) : f_M_readsClause (d + 1) σ = cI (f_M_here d σ) fun v2 σ1 => if v2 = 119 then mHd d v2 σ1 else (if v2 = 98 then mHd d v2 σ1 else (if v2 = 100 then mHd d v2 σ1 else (if v2 = 120 then mHd d v2 σ1 else (cI (f_M_wrongAt d 1 (σ1.1 102 8) σ1) fun v80 σ79 => rZ v80 σ79)))) := f_M_readsClause_eq d σ
abbrev isKd (c : Int) : Prop := c = 119 ∨ c = 98 ∨ c = 100 ∨ c = 120
theorem cClause_sp {q : Nat} (hq : isL q) {n : Int} {T : Int → Int} {pl s m : Int} {K : KK} {σ : Sg} (h : CL q n T pl s K σ) (hx : TX n T) (p0 : 0 ≤ pl) (p1 : pl ≤ n) (m0 : 0 ≤ m) (m16 : m ≤ 16) (em : σ.1 q 0 = zI m) {d : Nat} : (¬ isKd (chA n T pl) → f_LawReader_readClause (d + 2) q σ = rI (zI (-1000 - pl)) σ) ∧ (isKd (chA n T pl) → m = 16 → f_LawReader_readClause (d + 2) q σ = rI (zI (-4000 - pl)) σ) ∧ (isKd (chA n T pl) → m < 16 → f_LawReader_readClause (d + 2) q σ = if chA n T pl = 120 then cBrk (d + 1) q (zI m) (sI (sI (sI σ 5 4 (zI (pl + 1))) (q + 1) m.toNat (zI (chA n T pl))) (q + 2) m.toNat (zI s)) else (cI (f_LawReader_readSum (d + 1) q (zI 0) (sI (sI (sI σ 5 4 (zI (pl + 1))) (q + 1) m.toNat (zI (chA n T pl))) (q + 2) m.toNat (zI s))) fun v30 σ29 => if v30 = 0 then cBrk (d + 1) q (zI m) σ29 else rI v30 σ29)) := by
  obtain ⟨c0, c1, c2⟩ := hx.ch p0
  have ne : q ≠ 5 := by rcases hq with rfl | rfl <;> decide
  have hd : cHd (d + 1) q (zI (chA n T pl)) σ = if m = 16 then rI (zI (-4000 - pl)) σ else if chA n T pl = 120 then cBrk (d + 1) q (zI m) (sI (sI (sI σ 5 4 (zI (pl + 1))) (q + 1) m.toNat (zI (chA n T pl))) (q + 2) m.toNat (zI s)) else (cI (f_LawReader_readSum (d + 1) q (zI 0) (sI (sI (sI σ 5 4 (zI (pl + 1))) (q + 1) m.toNat (zI (chA n T pl))) (q + 2) m.toNat (zI s))) fun v30 σ29 => if v30 = 0 then cBrk (d + 1) q (zI m) σ29 else rI v30 σ29) := by
    unfold cHd
    rw [gfI_of hq.s0, em, show (16 : Int32) = zI 16 from zI_lit 16, ifLe (by omega) (by decide)]
    by_cases z : m = 16
    · rw [if_neg (by omega), if_pos z, show (4 : Int32) = zI 4 from zI_lit 4, tfaultZ h.1.2, cI_rI]; rfl
    · rw [if_pos (by omega), if_neg z]
      dsimp only
      rw [h.1.nx, gfS_of hq.s0, ofs_2_1, stI_of hq.s1 m0 (by omega) (by omega), gfS_of hq.s0, gfI_of hq.s0, sI_row _ _ _ _ _ (by omega), sI_row _ _ _ _ _ ne, h.2.1, ofs_2_2, stI_of hq.s2 m0 (by omega) (by omega), show (120 : Int32) = zI 120 from zI_lit 120, ifEq (by omega) (by decide), if_pos rfl, zI_0]
  have st : f_LawReader_readClause (d + 2) q σ = if isKd (chA n T pl) then cHd (d + 1) q (zI (chA n T pl)) σ else rI (zI (-1000 - pl)) σ := by
    rw [cClause_eq, h.1.now hx p0 p1, cI_rI, show (119 : Int32) = zI 119 from zI_lit 119, ifEq (by omega) (by decide), show (98 : Int32) = zI 98 from zI_lit 98, ifEq (by omega) (by decide), show (100 : Int32) = zI 100 from zI_lit 100, ifEq (by omega) (by decide), show (120 : Int32) = zI 120 from zI_lit 120, ifEq (by omega) (by decide), show (1 : Int32) = zI 1 from zI_lit 1, tfaultZ h.1.2, cI_rI]
    unfold isKd
    by_cases z1 : chA n T pl = 119
    · rw [if_pos z1, if_pos (Or.inl z1)]
    · rw [if_neg z1]
      by_cases z2 : chA n T pl = 98
      · rw [if_pos z2, if_pos (Or.inr (Or.inl z2))]
      · rw [if_neg z2]
        by_cases z3 : chA n T pl = 100
        · rw [if_pos z3, if_pos (Or.inr (Or.inr (Or.inl z3)))]
        · rw [if_neg z3]
          by_cases z4 : chA n T pl = 120
          · rw [if_pos z4, if_pos (Or.inr (Or.inr (Or.inr z4)))]
          · rw [if_neg z4, if_neg (by omega)]; rfl
  refine ⟨fun z => ?_, fun z y => ?_, fun z y => ?_⟩
  · rw [st, if_neg z]
  · rw [st, if_pos z, hd, if_pos y]
  · rw [st, if_pos z, hd, if_neg (by omega)]
theorem mClause_sp {n : Int} {T : Int → Int} {pl o s wt m : Int} {K : KK} {Wt : Int → Int} {τ : Sg} (h : ML n T pl o s K wt Wt τ) (hx : TX n T) (p0 : 0 ≤ pl) (p1 : pl ≤ n) (m0 : 0 ≤ m) (m16 : m ≤ 16) (em : τ.1 102 15 = zI m) {d : Nat} : (¬ isKd (chA n T pl) → f_M_readsClause (d + 2) τ = rI (zI 0) (sI τ 102 10 (zI (-1000 - pl)))) ∧ (isKd (chA n T pl) → m = 16 → f_M_readsClause (d + 2) τ = rI (zI 0) (sI τ 102 10 (zI (-4000 - pl)))) ∧ (isKd (chA n T pl) → m < 16 → f_M_readsClause (d + 2) τ = if chA n T pl = 120 then mCnd (d + 1) (sI (sI (sI (sI (sI τ 111 m.toNat (zI (chA n T pl))) 102 8 (zI (pl + 1))) 112 m.toNat (zI s)) 102 12 (zI 0)) 102 14 (zI 0)) else (cI (f_M_readsSum (d + 1) (sI (sI (sI (sI (sI τ 111 m.toNat (zI (chA n T pl))) 102 8 (zI (pl + 1))) 112 m.toNat (zI s)) 102 12 (zI 0)) 102 14 (zI 0))) fun v16 σ15 => if v16 = 0 then (rI (zI 0) σ15) else mCnd (d + 1) σ15)) := by
  obtain ⟨c0, c1, c2⟩ := hx.ch p0
  have hd : mHd (d + 1) (zI (chA n T pl)) τ = if m = 16 then rI (zI 0) (sI τ 102 10 (zI (-4000 - pl))) else if chA n T pl = 120 then mCnd (d + 1) (sI (sI (sI (sI (sI τ 111 m.toNat (zI (chA n T pl))) 102 8 (zI (pl + 1))) 112 m.toNat (zI s)) 102 12 (zI 0)) 102 14 (zI 0)) else (cI (f_M_readsSum (d + 1) (sI (sI (sI (sI (sI τ 111 m.toNat (zI (chA n T pl))) 102 8 (zI (pl + 1))) 112 m.toNat (zI s)) 102 12 (zI 0)) 102 14 (zI 0))) fun v16 σ15 => if v16 = 0 then (rI (zI 0) σ15) else mCnd (d + 1) σ15) := by
    unfold mHd
    rw [em, show (16 : Int32) = zI 16 from zI_lit 16, ifEq (by omega) (by decide)]
    by_cases z : m = 16
    · rw [if_pos z, if_pos z, h.1.2.1, show (4 : Int32) = zI 4 from zI_lit 4, wrongAt_sp, cI_rI, rZ_z0]; rfl
    · rw [if_neg z, if_neg z, bnd_zI m0 (by omega) (by omega), ix_zI m0 (by omega)]
      dsimp only
      rw [sI_slot _ _ _ _ (show (15 : Nat) ≠ 8 by decide), sI_row _ _ _ _ _ (show (102 : Nat) ≠ 111 by decide), em, bnd_zI m0 (by omega) (by omega), ix_zI m0 (by omega), sI_row _ _ _ _ _ (show (102 : Nat) ≠ 111 by decide), h.1.nx, sI_slot _ _ _ _ (show (13 : Nat) ≠ 8 by decide), sI_row _ _ _ _ _ (show (102 : Nat) ≠ 111 by decide), h.2.2.1, show (120 : Int32) = zI 120 from zI_lit 120, ifEq (by omega) (by decide), zI_0]
      rfl
  have st : f_M_readsClause (d + 2) τ = if isKd (chA n T pl) then mHd (d + 1) (zI (chA n T pl)) τ else rI (zI 0) (sI τ 102 10 (zI (-1000 - pl))) := by
    rw [mClause_eq, h.1.here hx p0 p1, cI_rI, show (119 : Int32) = zI 119 from zI_lit 119, ifEq (by omega) (by decide), show (98 : Int32) = zI 98 from zI_lit 98, ifEq (by omega) (by decide), show (100 : Int32) = zI 100 from zI_lit 100, ifEq (by omega) (by decide), show (120 : Int32) = zI 120 from zI_lit 120, ifEq (by omega) (by decide), h.1.2.1, show (1 : Int32) = zI 1 from zI_lit 1, wrongAt_sp, cI_rI, rZ_z0]
    unfold isKd
    by_cases z1 : chA n T pl = 119
    · rw [if_pos z1, if_pos (Or.inl z1)]
    · rw [if_neg z1]
      by_cases z2 : chA n T pl = 98
      · rw [if_pos z2, if_pos (Or.inr (Or.inl z2))]
      · rw [if_neg z2]
        by_cases z3 : chA n T pl = 100
        · rw [if_pos z3, if_pos (Or.inr (Or.inr (Or.inl z3)))]
        · rw [if_neg z3]
          by_cases z4 : chA n T pl = 120
          · rw [if_pos z4, if_pos (Or.inr (Or.inr (Or.inr z4)))]
          · rw [if_neg z4, if_neg (by omega)]; rfl
  refine ⟨fun z => ?_, fun z y => ?_, fun z y => ?_⟩
  · rw [st, if_neg z]
  · rw [st, if_pos z, hd, if_pos y]
  · rw [st, if_pos z, hd, if_neg (by omega)]
