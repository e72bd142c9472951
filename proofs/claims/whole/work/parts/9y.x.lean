/-! a roll: a person, in both -/
def RoN (P : Nat) (m : Int) (S L F G D : Int → Int) (σ : Sg) : Prop := isRow (P + 1) m S σ ∧ isRow (P + 2) m L σ ∧ isRow (P + 3) m F σ ∧ isRow (P + 4) m G σ ∧ isRow (P + 5) m D σ
def RoNw (m : Int) (S L F G D : Int → Int) (τ : Sg) : Prop := isRow 147 m S τ ∧ isRow 148 m L τ ∧ isRow 149 m F τ ∧ isRow 150 m G τ ∧ isRow 151 m D τ
noncomputable def cKin (d P : Nat) (σ : Sg) : Rs := gdK 4 P (cI (f_Roll_readParents d P σ) fun v33 σ32 => if v33 = 0 then (gdK 4 P (cI (f_Roll_readSpouse d P σ32) fun v35 σ34 => rI v35 σ34)) else (rI v33 σ32))
noncomputable def cTell (d P : Nat) (a2 : Int32) (σ18 : Sg) : Rs := gfS 4 P 2 fun v19 => gfI 4 P 0 σ18 fun v20 => cI (f_Tape_now d σ18) fun v22 σ21 => cI (f_N_nameOf d v22 σ21) fun v24 σ23 => stI v19 v20 v24 σ23 fun σ25 => gfS 4 P 2 fun v26 => gfI 4 P 0 σ25 fun v27 => ldI v26 v27 σ25 fun v28 => if v28 < a2 then (gfS 4 P 2 fun v29 => gfI 4 P 0 σ25 fun v30 => ldI v29 v30 σ25 fun v31 => if v31 < 0 then (cKin d P σ25) else (let σ36 := sI σ25 5 4 ((σ25.1 5 4) + 1); cKin d P σ36)) else (cI (f_Tape_fault d 6 σ25) fun v42 σ41 => rI v42 σ41)
noncomputable def cSet (d P : Nat) (a2 : Int32) (v6 : Nat) (v7 s : Int32) (σ1 : Sg) : Rs := stI v6 v7 s σ1 fun σ8 => gfS 4 P 3 fun v9 => gfI 4 P 0 σ8 fun v10 => stI v9 v10 ((-1)) σ8 fun σ11 => gfS 4 P 4 fun v12 => gfI 4 P 0 σ11 fun v13 => stI v12 v13 ((-1)) σ11 fun σ14 => gfS 4 P 5 fun v15 => gfI 4 P 0 σ14 fun v16 => stI v15 v16 ((-1)) σ14 fun σ17 => let σ18 := sI σ17 5 4 ((σ17.1 5 4) + 1); cTell d P a2 σ18
noncomputable def cHead (d P : Nat) (a2 v2 : Int32) (σ1 : Sg) : Rs := gfI 4 P 0 σ1 fun v3 => if v3 = 24 then (cI (f_Tape_fault d 4 σ1) fun v5 σ4 => rI v5 σ4) else (gfS 4 P 1 fun v6 => gfI 4 P 0 σ1 fun v7 => if v2 = 77 then cSet d P a2 v6 v7 0 σ1 else cSet d P a2 v6 v7 1 σ1)
theorem cPerson_eq (d P : Nat) (a2 : Int32) (σ : Sg) : f_Roll_readPerson (d + 1) P a2 σ = cI (f_Tape_now d σ) fun v2 σ1 => if v2 = 77 then cHead d P a2 v2 σ1 else if v2 = 70 then cHead d P a2 v2 σ1 else (cI (f_Tape_fault d 1 σ1) fun v154 σ153 => rI v154 σ153) := f_Roll_readPerson_eq d P a2 σ
noncomputable def mTell (d : Nat) (σ10 : Sg) : Rs := cI (f_M_here d σ10) fun v12 σ11 => cI (f_M_in d (v12 - 97) 0 5 σ11) fun v14 σ13 => if v14 = 0 then mPar d (mWed d) σ13 else (if (v12 - 97) < (σ13.1 102 5) then (bnd (σ13.1 102 70) 24 (let σ31 := sI σ13 148 (ix (σ13.1 102 70)) (v12 - 97); let σ32 := sI σ31 102 8 ((σ31.1 102 8) + 1); mPar d (mWed d) σ32)) else (cI (f_M_wrongAt d 6 (σ13.1 102 8) σ13) fun v50 σ49 => rZ v50 σ49))
noncomputable def mSet (d : Nat) (s : Int32) (σ1 : Sg) : Rs := bnd (σ1.1 102 70) 24 (let σ5 := sI σ1 147 (ix (σ1.1 102 70)) s; bnd (σ5.1 102 70) 24 (let σ6 := sI σ5 148 (ix (σ5.1 102 70)) ((-1)); bnd (σ6.1 102 70) 24 (let σ7 := sI σ6 149 (ix (σ6.1 102 70)) ((-1)); bnd (σ7.1 102 70) 24 (let σ8 := sI σ7 150 (ix (σ7.1 102 70)) ((-1)); bnd (σ8.1 102 70) 24 (let σ9 := sI σ8 151 (ix (σ8.1 102 70)) ((-1)); let σ10 := sI σ9 102 8 ((σ9.1 102 8) + 1); mTell d σ10)))))
noncomputable def mHead (d : Nat) (v2 : Int32) (σ1 : Sg) : Rs := if (σ1.1 102 70) = 24 then (cI (f_M_wrongAt d 4 (σ1.1 102 8) σ1) fun v4 σ3 => rZ v4 σ3) else (if v2 = 77 then mSet d 0 σ1 else mSet d 1 σ1)
theorem mPerson_eq (d : Nat) (σ : Sg) : f_M_readsPerson (d + 1) σ = cI (f_M_here d σ) fun v2 σ1 => if v2 = 77 then mHead d v2 σ1 else if v2 = 70 then mHead d v2 σ1 else (cI (f_M_wrongAt d 1 (σ1.1 102 8) σ1) fun v192 σ191 => rZ v192 σ191) := f_M_readsPerson_eq d σ
def SRs (P j a k : Nat) : Bool := ((a == P + 1 || a == P + 2 || a == P + 3 || a == P + 4 || a == P + 5) && k == j) || (a == 5 && k == 4)
def SMs (j a k : Nat) : Bool := ((a == 147 || a == 148 || a == 149 || a == 150 || a == 151) && k == j) || (a == 102 && (k == 8 || k == 10))
def tolA (n : Int) (T : Int → Int) (pl : Int) : Int := if 97 ≤ chA n T pl ∧ chA n T pl ≤ 102 then chA n T pl - 97 else -1
def tolP (n : Int) (T : Int → Int) (pl : Int) : Int := if 97 ≤ chA n T pl ∧ chA n T pl ≤ 102 then pl + 1 else pl
theorem cSet_sp {n pl m names s : Int} {T : Int → Int} {P : Nat} (hP : isP P) (hx : TX n T) (p0 : 0 ≤ pl) (p1 : pl + 1 ≤ n) (m0 : 0 ≤ m) (m24 : m < 24) (k0 : 0 ≤ names) (k6 : names ≤ 6) {σ : Sg} (h : CP n T pl σ) (e : σ.1 P 0 = zI m) {d : Nat} : ∃ σ', Fr (SRs P m.toNat) σ σ' ∧
    (names ≤ tolA n T (pl + 1) → cSet (d + 1) P (zI names) (P + 1) (zI m) (zI s) σ = rI (zI (-6000 - (pl + 1))) σ') ∧
    (tolA n T (pl + 1) < names → cSet (d + 1) P (zI names) (P + 1) (zI m) (zI s) σ = cKin (d + 1) P σ' ∧ σ'.1 5 4 = zI (tolP n T (pl + 1)) ∧ σ'.1 (P + 1) m.toNat = zI s ∧ σ'.1 (P + 2) m.toNat = zI (tolA n T (pl + 1)) ∧ σ'.1 (P + 3) m.toNat = zI (-1) ∧ σ'.1 (P + 4) m.toNat = zI (-1) ∧ σ'.1 (P + 5) m.toNat = zI (-1)) := by
  have n260 := hx.2.1
  obtain ⟨c0, c1, c2⟩ := hx.ch (show 0 ≤ pl + 1 by omega)
  have ne : (5 : Nat) ≠ P + 1 ∧ (5 : Nat) ≠ P + 2 ∧ (5 : Nat) ≠ P + 3 ∧ (5 : Nat) ≠ P + 4 ∧ (5 : Nat) ≠ P + 5 ∧ P ≠ 5 := by rcases hP with rfl | rfl <;> decide
  obtain ⟨ne1, ne2, ne3, ne4, ne5, ne6⟩ := ne
  have m1 : (-1 : Int32) = zI (-1) := rfl
  have st : cSet (d + 1) P (zI names) (P + 1) (zI m) (zI s) σ = cTell (d + 1) P (zI names) (sI (sI (sI (sI (sI σ (P + 1) m.toNat (zI s)) (P + 3) m.toNat (zI (-1))) (P + 4) m.toNat (zI (-1))) (P + 5) m.toNat (zI (-1))) 5 4 (zI (pl + 1))) := by
    unfold cSet
    rw [stI_of hP.s1 m0 (by omega) (by omega), gfS_of hP.s0, gfI_of hP.s0, sI_row _ _ _ _ _ (by omega), e, ofs_4_3, m1, stI_of hP.s3 m0 (by omega) (by omega), gfS_of hP.s0, gfI_of hP.s0, sI_row _ _ _ _ _ (by omega), sI_row _ _ _ _ _ (by omega), e, ofs_4_4, stI_of hP.s4 m0 (by omega) (by omega), gfS_of hP.s0, gfI_of hP.s0, sI_row _ _ _ _ _ (by omega), sI_row _ _ _ _ _ (by omega), sI_row _ _ _ _ _ (by omega), e, ofs_4_5, stI_of hP.s5 m0 (by omega) (by omega)]
    dsimp only
    rw [sI_row _ _ _ _ _ ne5, sI_row _ _ _ _ _ ne4, sI_row _ _ _ _ _ ne3, sI_row _ _ _ _ _ ne1, h.nx]
  have F1 : Fr (SRs P m.toNat) σ (sI (sI (sI (sI (sI σ (P + 1) m.toNat (zI s)) (P + 3) m.toNat (zI (-1))) (P + 4) m.toNat (zI (-1))) (P + 5) m.toNat (zI (-1))) 5 4 (zI (pl + 1))) := (((((Fr.rf _ σ).sI _ (by simp [SRs])).sI _ (by simp [SRs])).sI _ (by simp [SRs])).sI _ (by simp [SRs])).sI _ (by simp [SRs])
  have h1 : CP n T (pl + 1) (sI (sI (sI (sI (sI σ (P + 1) m.toNat (zI s)) (P + 3) m.toNat (zI (-1))) (P + 4) m.toNat (zI (-1))) (P + 5) m.toNat (zI (-1))) 5 4 (zI (pl + 1))) := h.fr F1 (by rcases hP with rfl | rfl <;> simp [SRs]) (by rcases hP with rfl | rfl <;> simp [SRs]) (fun k => by rcases hP with rfl | rfl <;> simp [SRs]) (sI_same _ _ _ _)
  have e1 : (sI (sI (sI (sI (sI σ (P + 1) m.toNat (zI s)) (P + 3) m.toNat (zI (-1))) (P + 4) m.toNat (zI (-1))) (P + 5) m.toNat (zI (-1))) 5 4 (zI (pl + 1))).1 P 0 = zI m := by
    rw [sI_row _ _ _ _ _ ne6, sI_row _ _ _ _ _ (by omega), sI_row _ _ _ _ _ (by omega), sI_row _ _ _ _ _ (by omega), sI_row _ _ _ _ _ (by omega), e]
  have w1 : (sI (sI (sI (sI (sI σ (P + 1) m.toNat (zI s)) (P + 3) m.toNat (zI (-1))) (P + 4) m.toNat (zI (-1))) (P + 5) m.toNat (zI (-1))) 5 4 (zI (pl + 1))).1 (P + 1) m.toNat = zI s := by
    rw [sI_row _ _ _ _ _ (Ne.symm ne1), sI_row _ _ _ _ _ (by omega), sI_row _ _ _ _ _ (by omega), sI_row _ _ _ _ _ (by omega), sI_same]
  have w3 : (sI (sI (sI (sI (sI σ (P + 1) m.toNat (zI s)) (P + 3) m.toNat (zI (-1))) (P + 4) m.toNat (zI (-1))) (P + 5) m.toNat (zI (-1))) 5 4 (zI (pl + 1))).1 (P + 3) m.toNat = zI (-1) := by
    rw [sI_row _ _ _ _ _ (Ne.symm ne3), sI_row _ _ _ _ _ (by omega), sI_row _ _ _ _ _ (by omega), sI_same]
  have w4 : (sI (sI (sI (sI (sI σ (P + 1) m.toNat (zI s)) (P + 3) m.toNat (zI (-1))) (P + 4) m.toNat (zI (-1))) (P + 5) m.toNat (zI (-1))) 5 4 (zI (pl + 1))).1 (P + 4) m.toNat = zI (-1) := by
    rw [sI_row _ _ _ _ _ (Ne.symm ne4), sI_row _ _ _ _ _ (by omega), sI_same]
  have w5 : (sI (sI (sI (sI (sI σ (P + 1) m.toNat (zI s)) (P + 3) m.toNat (zI (-1))) (P + 4) m.toNat (zI (-1))) (P + 5) m.toNat (zI (-1))) 5 4 (zI (pl + 1))).1 (P + 5) m.toNat = zI (-1) := by
    rw [sI_row _ _ _ _ _ (Ne.symm ne5), sI_same]
  generalize sI (sI (sI (sI (sI σ (P + 1) m.toNat (zI s)) (P + 3) m.toNat (zI (-1))) (P + 4) m.toNat (zI (-1))) (P + 5) m.toNat (zI (-1))) 5 4 (zI (pl + 1)) = σ1 at st F1 h1 e1 w1 w3 w4 w5
  have F2 : Fr (SRs P m.toNat) σ (sI σ1 (P + 2) m.toNat (zI (tolA n T (pl + 1)))) := F1.sI _ (by simp [SRs])
  have h2 : CP n T (pl + 1) (sI σ1 (P + 2) m.toNat (zI (tolA n T (pl + 1)))) := h.fr F2 (by rcases hP with rfl | rfl <;> simp [SRs]) (by rcases hP with rfl | rfl <;> simp [SRs]) (fun k => by rcases hP with rfl | rfl <;> simp [SRs]) ((sI_row _ _ _ _ _ ne2).trans h1.2)
  have tb : -1 ≤ tolA n T (pl + 1) ∧ tolA n T (pl + 1) ≤ 5 := by unfold tolA; split <;> omega
  have te : cTell (d + 1) P (zI names) σ1 = if tolA n T (pl + 1) < names then (if tolA n T (pl + 1) < 0 then cKin (d + 1) P (sI σ1 (P + 2) m.toNat (zI (tolA n T (pl + 1)))) else cKin (d + 1) P (sI (sI σ1 (P + 2) m.toNat (zI (tolA n T (pl + 1)))) 5 4 (zI (pl + 1 + 1)))) else rI (zI (-6000 - (pl + 1))) (sI σ1 (P + 2) m.toNat (zI (tolA n T (pl + 1)))) := by
    unfold cTell
    rw [gfS_of hP.s0, gfI_of hP.s0, e1, h1.now hx (by omega) p1, cI_rI, nameOf_sp c0 c1, cI_rI, ofs_4_2, show (if 97 ≤ chA n T (pl + 1) ∧ chA n T (pl + 1) ≤ 102 then chA n T (pl + 1) - 97 else -1) = tolA n T (pl + 1) from rfl, stI_of hP.s2 m0 (by omega) (by omega), gfS_of hP.s0, gfI_of hP.s0, sI_row _ _ _ _ _ (by omega), e1, ofs_4_2, ldi_of hP.s2 m0 (by omega) (by omega), sI_same, ifLe (by omega) (by omega)]
    by_cases w : tolA n T (pl + 1) < names
    · rw [if_pos w, if_pos w, gfS_of hP.s0, gfI_of hP.s0, sI_row _ _ _ _ _ (by omega), e1, ofs_4_2, ldi_of hP.s2 m0 (by omega) (by omega), sI_same, zI_0, ifLe (by omega) (by decide)]
      by_cases w2 : tolA n T (pl + 1) < 0
      · rw [if_pos w2, if_pos w2]
      · rw [if_neg w2, if_neg w2]
        dsimp only
        rw [h2.nx]
    · rw [if_neg w, if_neg w, show (6 : Int32) = zI 6 from zI_lit 6, tfaultZ h2.2, cI_rI]; rfl
  by_cases w : tolA n T (pl + 1) < names
  · by_cases w2 : tolA n T (pl + 1) < 0
    · have hp : tolP n T (pl + 1) = pl + 1 := by
        unfold tolP; unfold tolA at w2
        by_cases z : 97 ≤ chA n T (pl + 1) ∧ chA n T (pl + 1) ≤ 102
        · rw [if_pos z] at w2; omega
        · rw [if_neg z]
      refine ⟨_, F2, fun z => absurd w (by omega), fun _ => ⟨by rw [st, te, if_pos w, if_pos w2], by rw [hp]; exact h2.2, (sI_row _ _ _ _ _ (by omega)).trans w1, sI_same _ _ _ _, (sI_row _ _ _ _ _ (by omega)).trans w3, (sI_row _ _ _ _ _ (by omega)).trans w4, (sI_row _ _ _ _ _ (by omega)).trans w5⟩⟩
    · have hp : tolP n T (pl + 1) = pl + 1 + 1 := by
        unfold tolP; unfold tolA at w2
        by_cases z : 97 ≤ chA n T (pl + 1) ∧ chA n T (pl + 1) ≤ 102
        · rw [if_pos z]
        · rw [if_neg z] at w2; omega
      refine ⟨_, F2.sI (a := 5) (k := 4) (zI (pl + 1 + 1)) (by simp [SRs]), fun z => absurd w (by omega), fun _ => ⟨by rw [st, te, if_pos w, if_neg w2], by rw [hp]; exact sI_same _ _ _ _, (sI_row _ _ _ _ _ ne1.symm).trans ((sI_row _ _ _ _ _ (by omega)).trans w1), (sI_row _ _ _ _ _ ne2.symm).trans (sI_same _ _ _ _), (sI_row _ _ _ _ _ ne3.symm).trans ((sI_row _ _ _ _ _ (by omega)).trans w3), (sI_row _ _ _ _ _ ne4.symm).trans ((sI_row _ _ _ _ _ (by omega)).trans w4), (sI_row _ _ _ _ _ ne5.symm).trans ((sI_row _ _ _ _ _ (by omega)).trans w5)⟩⟩
  · exact ⟨_, F2, fun _ => by rw [st, te, if_neg w], fun z => absurd z w⟩
theorem mSet_sp {n pl m names s : Int} {T : Int → Int} (hx : TX n T) (p0 : 0 ≤ pl) (p1 : pl + 1 ≤ n) (m0 : 0 ≤ m) (m24 : m < 24) (k0 : 0 ≤ names) (k6 : names ≤ 6) {τ : Sg} (h : MP n T pl τ) (e : τ.1 102 70 = zI m) (ek : τ.1 102 5 = zI names) {d : Nat} : ∃ τ', Fr (SMs m.toNat) τ τ' ∧
    (names ≤ tolA n T (pl + 1) → mSet (d + 1) (zI s) τ = rI (zI 0) τ' ∧ τ'.1 102 10 = zI (-6000 - (pl + 1))) ∧
    (tolA n T (pl + 1) < names → mSet (d + 1) (zI s) τ = mPar (d + 1) (mWed (d + 1)) τ' ∧ τ'.1 102 8 = zI (tolP n T (pl + 1)) ∧ τ'.1 147 m.toNat = zI s ∧ τ'.1 148 m.toNat = zI (tolA n T (pl + 1)) ∧ τ'.1 149 m.toNat = zI (-1) ∧ τ'.1 150 m.toNat = zI (-1) ∧ τ'.1 151 m.toNat = zI (-1)) := by
  have n260 := hx.2.1
  obtain ⟨c0, c1, c2⟩ := hx.ch (show 0 ≤ pl + 1 by omega)
  have m1 : (-1 : Int32) = zI (-1) := rfl
  have e' : ∀ (a : Nat) (v : Int32) (σ : Sg), a ≠ 102 → (sI σ a m.toNat v).1 102 70 = σ.1 102 70 := fun a v σ q => sI_row _ _ _ _ _ (Ne.symm q)
  have st : mSet (d + 1) (zI s) τ = mTell (d + 1) (sI (sI (sI (sI (sI (sI τ 147 m.toNat (zI s)) 148 m.toNat (zI (-1))) 149 m.toNat (zI (-1))) 150 m.toNat (zI (-1))) 151 m.toNat (zI (-1))) 102 8 (zI (pl + 1))) := by
    unfold mSet
    dsimp only
    rw [e, ix_zI m0 (by omega), bnd_zI m0 (by omega) (by omega), e' _ _ _ (by decide), e, ix_zI m0 (by omega), bnd_zI m0 (by omega) (by omega), e' _ _ _ (by decide), e' _ _ _ (by decide), e, ix_zI m0 (by omega), bnd_zI m0 (by omega) (by omega), e' _ _ _ (by decide), e' _ _ _ (by decide), e' _ _ _ (by decide), e, ix_zI m0 (by omega), bnd_zI m0 (by omega) (by omega), e' _ _ _ (by decide), e' _ _ _ (by decide), e' _ _ _ (by decide), e' _ _ _ (by decide), e, ix_zI m0 (by omega), bnd_zI m0 (by omega) (by omega), m1, sI_row _ _ _ _ _ (by decide), sI_row _ _ _ _ _ (by decide), sI_row _ _ _ _ _ (by decide), sI_row _ _ _ _ _ (by decide), sI_row _ _ _ _ _ (by decide), h.nx]
  have F1 : Fr (SMs m.toNat) τ (sI (sI (sI (sI (sI (sI τ 147 m.toNat (zI s)) 148 m.toNat (zI (-1))) 149 m.toNat (zI (-1))) 150 m.toNat (zI (-1))) 151 m.toNat (zI (-1))) 102 8 (zI (pl + 1))) := ((((((Fr.rf _ τ).sI _ (by simp [SMs])).sI _ (by simp [SMs])).sI _ (by simp [SMs])).sI _ (by simp [SMs])).sI _ (by simp [SMs])).sI _ (by simp [SMs])
  have h1 : MP n T (pl + 1) (sI (sI (sI (sI (sI (sI τ 147 m.toNat (zI s)) 148 m.toNat (zI (-1))) 149 m.toNat (zI (-1))) 150 m.toNat (zI (-1))) 151 m.toNat (zI (-1))) 102 8 (zI (pl + 1))) := h.fr F1 (by simp [SMs]) (fun k => by simp [SMs]) (sI_same _ _ _ _)
  have w1 : (sI (sI (sI (sI (sI (sI τ 147 m.toNat (zI s)) 148 m.toNat (zI (-1))) 149 m.toNat (zI (-1))) 150 m.toNat (zI (-1))) 151 m.toNat (zI (-1))) 102 8 (zI (pl + 1))).1 147 m.toNat = zI s := by
    rw [sI_row _ _ _ _ _ (by decide), sI_row _ _ _ _ _ (by decide), sI_row _ _ _ _ _ (by decide), sI_row _ _ _ _ _ (by decide), sI_row _ _ _ _ _ (by decide), sI_same]
  have w2 : (sI (sI (sI (sI (sI (sI τ 147 m.toNat (zI s)) 148 m.toNat (zI (-1))) 149 m.toNat (zI (-1))) 150 m.toNat (zI (-1))) 151 m.toNat (zI (-1))) 102 8 (zI (pl + 1))).1 148 m.toNat = zI (-1) := by
    rw [sI_row _ _ _ _ _ (by decide), sI_row _ _ _ _ _ (by decide), sI_row _ _ _ _ _ (by decide), sI_row _ _ _ _ _ (by decide), sI_same]
  have w3 : (sI (sI (sI (sI (sI (sI τ 147 m.toNat (zI s)) 148 m.toNat (zI (-1))) 149 m.toNat (zI (-1))) 150 m.toNat (zI (-1))) 151 m.toNat (zI (-1))) 102 8 (zI (pl + 1))).1 149 m.toNat = zI (-1) := by
    rw [sI_row _ _ _ _ _ (by decide), sI_row _ _ _ _ _ (by decide), sI_row _ _ _ _ _ (by decide), sI_same]
  have w4 : (sI (sI (sI (sI (sI (sI τ 147 m.toNat (zI s)) 148 m.toNat (zI (-1))) 149 m.toNat (zI (-1))) 150 m.toNat (zI (-1))) 151 m.toNat (zI (-1))) 102 8 (zI (pl + 1))).1 150 m.toNat = zI (-1) := by
    rw [sI_row _ _ _ _ _ (by decide), sI_row _ _ _ _ _ (by decide), sI_same]
  have w5 : (sI (sI (sI (sI (sI (sI τ 147 m.toNat (zI s)) 148 m.toNat (zI (-1))) 149 m.toNat (zI (-1))) 150 m.toNat (zI (-1))) 151 m.toNat (zI (-1))) 102 8 (zI (pl + 1))).1 151 m.toNat = zI (-1) := by
    rw [sI_row _ _ _ _ _ (by decide), sI_same]
  generalize sI (sI (sI (sI (sI (sI τ 147 m.toNat (zI s)) 148 m.toNat (zI (-1))) 149 m.toNat (zI (-1))) 150 m.toNat (zI (-1))) 151 m.toNat (zI (-1))) 102 8 (zI (pl + 1)) = τ1 at st F1 h1 w1 w2 w3 w4 w5
  have e1 : τ1.1 102 70 = zI m := (F1.2 _ _ (by simp [SMs])).trans e
  have ek1 : τ1.1 102 5 = zI names := (F1.2 _ _ (by simp [SMs])).trans ek
  have te : mTell (d + 1) τ1 = if 97 ≤ chA n T (pl + 1) ∧ chA n T (pl + 1) ≤ 102 then (if chA n T (pl + 1) - 97 < names then mPar (d + 1) (mWed (d + 1)) (sI (sI τ1 148 m.toNat (zI (chA n T (pl + 1) - 97))) 102 8 (zI (pl + 1 + 1))) else rI (zI 0) (sI τ1 102 10 (zI (-6000 - (pl + 1))))) else mPar (d + 1) (mWed (d + 1)) τ1 := by
    unfold mTell
    rw [h1.here hx (by omega) p1, cI_rI, show (97 : Int32) = zI 97 from zI_lit 97, zI_sub, zI_0, show (5 : Int32) = zI 5 from zI_lit 5, in_sp (by omega) (by decide) (by decide), cI_rI, ← zI_0, ifBz]
    by_cases w : 97 ≤ chA n T (pl + 1) ∧ chA n T (pl + 1) ≤ 102
    · rw [if_pos (show 0 ≤ chA n T (pl + 1) - 97 ∧ chA n T (pl + 1) - 97 ≤ 5 by omega), if_pos w, ek1, ifLe (by omega) (by omega)]
      by_cases w2 : chA n T (pl + 1) - 97 < names
      · rw [if_pos w2, if_pos w2, e1, bnd_zI m0 (by omega) (by omega), ix_zI m0 (by omega)]
        dsimp only
        rw [sI_row _ _ _ _ _ (by decide), h1.nx]
      · rw [if_neg w2, if_neg w2, h1.2.1, show (6 : Int32) = zI 6 from zI_lit 6, wrongAt_sp, cI_rI, rZ_z0]; rfl
    · rw [if_neg (show ¬ (0 ≤ chA n T (pl + 1) - 97 ∧ chA n T (pl + 1) - 97 ≤ 5) by omega), if_neg w]
  by_cases w : 97 ≤ chA n T (pl + 1) ∧ chA n T (pl + 1) ≤ 102
  · have ta : tolA n T (pl + 1) = chA n T (pl + 1) - 97 := if_pos w
    have tp : tolP n T (pl + 1) = pl + 1 + 1 := if_pos w
    rw [ta, tp]
    by_cases w2' : chA n T (pl + 1) - 97 < names
    · exact ⟨_, (F1.sI (a := 148) (k := m.toNat) (zI (chA n T (pl + 1) - 97)) (by simp [SMs])).sI (a := 102) (k := 8) (zI (pl + 1 + 1)) (by simp [SMs]), fun z => by omega, fun _ => ⟨by rw [st, te, if_pos w, if_pos w2'], sI_same _ _ _ _, (sI_row _ _ _ _ _ (by decide)).trans ((sI_row _ _ _ _ _ (by decide)).trans w1), (sI_row _ _ _ _ _ (by decide)).trans (sI_same _ _ _ _), (sI_row _ _ _ _ _ (by decide)).trans ((sI_row _ _ _ _ _ (by decide)).trans w3), (sI_row _ _ _ _ _ (by decide)).trans ((sI_row _ _ _ _ _ (by decide)).trans w4), (sI_row _ _ _ _ _ (by decide)).trans ((sI_row _ _ _ _ _ (by decide)).trans w5)⟩⟩
    · exact ⟨_, F1.sI (a := 102) (k := 10) (zI (-6000 - (pl + 1))) (by simp [SMs]), fun _ => ⟨by rw [st, te, if_pos w, if_neg w2'], sI_same _ _ _ _⟩, fun z => absurd z w2'⟩
  · have ta : tolA n T (pl + 1) = -1 := if_neg w
    have tp : tolP n T (pl + 1) = pl + 1 := if_neg w
    rw [ta, tp]
    exact ⟨τ1, F1, fun z => by omega, fun _ => ⟨by rw [st, te, if_neg w], h1.2.1, w1, w2, w3, w4, w5⟩⟩
