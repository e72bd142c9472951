/-! a roll: parents, in both -/
theorem sign_sp {n pl c : Int} {T : Int → Int} {σ : Sg} (h : CP n T pl σ) (hx : TX n T) (p0 : 0 ≤ pl) (p1 : pl ≤ n) (k0 : 0 ≤ c) (k1 : c < 256) {d : Nat} : f_Tape_sign (d + 2) (zI c) σ = if chA n T pl = c then rI (zI 0) (sI σ 5 4 (zI (pl + 1))) else rI (zI (-1000 - pl)) σ := by
  obtain ⟨c0, c1, -⟩ := hx.ch p0
  rw [f_Tape_sign_eq, h.now hx p0 p1, cI_rI, ifEq (by omega) (by omega)]
  by_cases q : chA n T pl = c
  · rw [if_pos q, if_pos q]
    dsimp only
    rw [h.nx]; rfl
  · rw [if_neg q, if_neg q, show (1 : Int32) = zI 1 from zI_lit 1, tfaultZ h.2, cI_rI]
    exact congrArg (rI · σ) (congrArg zI (by omega))
theorem takes_sp {n pl c : Int} {T : Int → Int} {τ : Sg} (h : MP n T pl τ) (hx : TX n T) (p0 : 0 ≤ pl) (p1 : pl ≤ n) (k0 : 0 ≤ c) (k1 : c < 256) {d : Nat} : f_M_takes (d + 2) (zI c) τ = if chA n T pl = c then rI (zI 1) (sI τ 102 8 (zI (pl + 1))) else rI (zI 0) (sI τ 102 10 (zI (-1000 - pl))) := by
  obtain ⟨c0, c1, -⟩ := hx.ch p0
  rw [f_M_takes_eq, h.here hx p0 p1, cI_rI, ifEq (by omega) (by omega)]
  by_cases q : chA n T pl = c
  · rw [if_pos q, if_pos q]
    dsimp only
    rw [h.nx]; rfl
  · rw [if_neg q, if_neg q, h.2.1, show (1 : Int32) = zI 1 from zI_lit 1, wrongAt_sp, cI_rI, rZ_z0, show (-1000 * 1 - pl : Int) = -1000 - pl by omega]
def SRpa (P j a k : Nat) : Bool := SRn P a k || ((a == P + 3 || a == P + 4) && k == j)
def SMpa (j a k : Nat) : Bool := SMn a k || ((a == 149 || a == 150) && k == j)
noncomputable def mPar (d : Nat) (K : Sg → Rs) (τ : Sg) : Rs := cI (f_M_here d τ) fun v τ => if v = 60 then (cI (f_M_readsParents d τ) fun v τ => if v = 0 then rZ 0 τ else K τ) else K τ
def isRow (a : Nat) (k : Int) (S : Int → Int) (σ : Sg) : Prop := ∀ x, 0 ≤ x → x < k → σ.1 a x.toNat = zI (S x)
theorem SRn_fr {n pl pl' : Int} {T : Int → Int} {P : Nat} (hP : isP P) {σ σ' : Sg} (h : CP n T pl σ) (F : Fr (SRn P) σ σ') (e : σ'.1 5 4 = zI pl') : CP n T pl' σ' := h.fr F (by rcases hP with rfl | rfl <;> rfl) (by rcases hP with rfl | rfl <;> rfl) (fun k => by rcases hP with rfl | rfl <;> rfl) e
theorem SMn_fr {n pl pl' : Int} {T : Int → Int} {σ σ' : Sg} (h : MP n T pl σ) (F : Fr SMn σ σ') (e : σ'.1 102 8 = zI pl') : MP n T pl' σ' := h.fr F rfl (fun _ => rfl) e
theorem parentsBoth {n pl m : Int} {T S : Int → Int} {P : Nat} (hP : isP P) (hx : TX n T) (p0 : 0 ≤ pl) (p1 : pl ≤ n) (m0 : 0 ≤ m) (m24 : m < 24) (hS : ∀ x, 0 ≤ x → x < m → S x = 0 ∨ S x = 1) (d d2 : Nat) : ∃ v F1 G1 pl' : Int, -10000 < v ∧ v ≤ 0 ∧ (v = 0 → (F1 = -1 ∨ 0 ≤ F1 ∧ F1 < m ∧ S F1 = 0) ∧ (G1 = -1 ∨ 0 ≤ G1 ∧ G1 < m ∧ S G1 = 1) ∧ pl ≤ pl' ∧ pl' ≤ n) ∧
    (∀ σ, CP n T pl σ → σ.1 P 0 = zI m → isRow (P + 1) m S σ → σ.1 (P + 3) m.toNat = zI (-1) → σ.1 (P + 4) m.toNat = zI (-1) → ∃ σ', f_Roll_readParents (d + 4) P σ = rI (zI v) σ' ∧ Fr (SRpa P m.toNat) σ σ' ∧ (v = 0 → σ'.1 (P + 3) m.toNat = zI F1 ∧ σ'.1 (P + 4) m.toNat = zI G1 ∧ σ'.1 5 4 = zI pl')) ∧
    (∀ τ, MP n T pl τ → τ.1 102 70 = zI m → isRow 147 m S τ → τ.1 149 m.toNat = zI (-1) → τ.1 150 m.toNat = zI (-1) → ∃ τ', (∀ K, mPar (d2 + 5) K τ = if v = 0 then K τ' else rI (zI 0) τ') ∧ Fr (SMpa m.toNat) τ τ' ∧ (v < 0 → τ'.1 102 10 = zI v) ∧ (v = 0 → τ'.1 149 m.toNat = zI F1 ∧ τ'.1 150 m.toNat = zI G1 ∧ τ'.1 102 8 = zI pl')) := by
  have n260 := hx.2.1
  obtain ⟨c0, c1, c2⟩ := hx.ch p0
  have sNp : ∀ {σ σ' : Sg}, Fr (SRn P) σ σ' → Fr (SRpa P m.toNat) σ σ' := fun F => F.mono fun a k e => by simp only [SRpa, Bool.or_eq_false_iff] at e; exact e.1
  have sMp : ∀ {σ σ' : Sg}, Fr SMn σ σ' → Fr (SMpa m.toNat) σ σ' := fun F => F.mono fun a k e => by simp only [SMpa, Bool.or_eq_false_iff] at e; exact e.1
  by_cases q : chA n T pl = 60
  · have p2 : pl + 1 ≤ n := by have := c2 (by omega); omega
    obtain ⟨v1, u1, q1, b1, b2, b3, hN1, hM1⟩ := parBoth hP hx (show 0 ≤ pl + 1 by omega) p2 m0 (by omega) (Or.inl rfl) hS (d := d) (d2 := d2)
    have aN : ∀ σ, CP n T pl σ → σ.1 P 0 = zI m → isRow (P + 1) m S σ → ∃ σ', Fr (SRn P) σ σ' ∧ (v1 = 0 → σ'.1 P 10 = zI u1 ∧ σ'.1 5 4 = zI q1) ∧ f_Roll_readParents (d + 4) P σ = if v1 = 0 then (gfS 4 P 3 fun v6 => gfI 4 P 0 σ' fun v7 => gfI 4 P 10 σ' fun v8 => stI v6 v7 v8 σ' fun σ9 => cI (f_Tape_sign (d + 3) 44 σ9) fun v11 σ10 => if v11 = 0 then (gdK 4 P (cI (f_Roll_readParent (d + 3) P 1 σ10) fun v13 σ12 => gfS 4 P 4 fun v14 => gfI 4 P 0 σ12 fun v15 => gfI 4 P 10 σ12 fun v16 => stI v14 v15 v16 σ12 fun σ17 => rI v13 σ17)) else (rI v11 σ10)) else rI (zI v1) σ' := fun σ h e hs => by
      have F1 : Fr (SRn P) σ (sI σ 5 4 (zI (pl + 1))) := (Fr.rf _ σ).sI _ (by simp [SRn])
      have ne : P ≠ (5 : Nat) := by rcases hP with rfl | rfl <;> decide
      have ne1 : P + 1 ≠ (5 : Nat) := by rcases hP with rfl | rfl <;> decide
      obtain ⟨σ', a1, a2, a3⟩ := hN1 _ (h.up (pl + 1)) ((sI_row _ _ _ _ _ ne).trans e) (fun x x0 x1 => (sI_row _ _ _ _ _ ne1).trans (hs x x0 x1))
      refine ⟨σ', F1.tr a2, a3, ?_⟩
      rw [f_Roll_readParents_eq, h.now hx p0 p1, cI_rI, show (60 : Int32) = zI 60 from zI_lit 60, ifEq (by omega) (by decide), if_pos q]
      dsimp only
      rw [h.nx, gdK_of hP.s0, zI_0, a1, cI_rI, ← zI_0]
      by_cases w : v1 = 0
      · rw [if_pos (by rw [n1v b2 b1]; exact w), if_pos w]
      · rw [if_neg (by rw [n1v b2 b1]; exact w), if_neg w]
    have aM : ∀ τ, MP n T pl τ → τ.1 102 70 = zI m → isRow 147 m S τ → ∃ τ', Fr SMn τ τ' ∧ (v1 < 0 → τ'.1 102 10 = zI v1) ∧ (v1 = 0 → τ'.1 102 11 = zI u1 ∧ τ'.1 102 8 = zI q1) ∧ f_M_readsParents (d2 + 5) τ = if v1 = 0 then (bnd (τ'.1 102 70) 24 (let σ4 := sI τ' 149 (ix (τ'.1 102 70)) (τ'.1 102 11); cI (f_M_takes (d2 + 4) 44 σ4) fun v6 σ5 => if v6 = 0 then (rZ 0 σ5) else (cI (f_M_readsParent (d2 + 4) 1 σ5) fun v8 σ7 => if v8 = 0 then (rZ 0 σ7) else (bnd (σ7.1 102 70) 24 (let σ9 := sI σ7 150 (ix (σ7.1 102 70)) (σ7.1 102 11); rZ 1 σ9))))) else rI (zI 0) τ' := fun τ h e hs => by
      have F1 : Fr SMn τ (sI τ 102 8 (zI (pl + 1))) := (Fr.rf _ τ).sI _ rfl
      obtain ⟨τ', a1, a2, a3, a4⟩ := hM1 _ (h.up (pl + 1)) ((sI_slot _ _ _ _ (by decide)).trans e) (fun x x0 x1 => (sI_row _ _ _ _ _ (by decide)).trans (hs x x0 x1))
      refine ⟨τ', F1.tr a2, a3, a4, ?_⟩
      rw [f_M_readsParents_eq]
      dsimp only
      rw [h.nx, zI_0, a1, cI_rI, ← zI_0]
      by_cases w : v1 = 0
      · rw [if_neg (by rw [bz0]; exact fun z => z w), if_pos w]
      · rw [if_pos (by rw [bz0]; exact w), if_neg w]; rfl
    have pM : ∀ K τ, MP n T pl τ → mPar (d2 + 5) K τ = cI (f_M_readsParents (d2 + 5) τ) fun v τ => if v = 0 then rZ 0 τ else K τ := fun K τ h => by
      unfold mPar
      rw [h.here hx p0 p1, cI_rI, show (60 : Int32) = zI 60 from zI_lit 60, ifEq (by omega) (by decide), if_pos q]
    by_cases v0 : v1 = 0
    · subst v0
      obtain ⟨ub, l0, l1⟩ := b3 rfl
      obtain ⟨k0, k1, k2⟩ := hx.ch (show 0 ≤ q1 by omega)
      have bN : ∀ σ, CP n T pl σ → σ.1 P 0 = zI m → isRow (P + 1) m S σ → ∃ σ', Fr (SRpa P m.toNat) σ σ' ∧ σ'.1 (P + 3) m.toNat = zI u1 ∧ σ'.1 (P + 4) m.toNat = σ.1 (P + 4) m.toNat ∧ CP n T q1 σ' ∧ f_Roll_readParents (d + 4) P σ = if chA n T q1 = 44 then (cI (f_Roll_readParent (d + 3) P 1 (sI σ' 5 4 (zI (q1 + 1)))) fun v13 σ12 => gfS 4 P 4 fun v14 => gfI 4 P 0 σ12 fun v15 => gfI 4 P 10 σ12 fun v16 => stI v14 v15 v16 σ12 fun σ17 => rI v13 σ17) else rI (zI (-1000 - q1)) σ' := fun σ h e hs => by
        obtain ⟨σ', a2, a3, a1⟩ := aN σ h e hs
        obtain ⟨e1, e2⟩ := a3 rfl
        have e0 : σ'.1 P 0 = zI m := (a2.2 _ _ (by rcases hP with rfl | rfl <;> rfl)).trans e
        have C1 : CP n T q1 (sI σ' (P + 3) m.toNat (zI u1)) := (SRn_fr hP h a2 e2).fr (S := fun a _ => a == P + 3) ((Fr.rf _ σ').sI _ (by simp)) (by rcases hP with rfl | rfl <;> rfl) (by rcases hP with rfl | rfl <;> rfl) (fun k => by rcases hP with rfl | rfl <;> rfl) ((sI_row _ _ _ _ _ (by rcases hP with rfl | rfl <;> decide)).trans e2)
        refine ⟨_, (sNp a2).sI _ (by simp [SRpa]), sI_same _ _ _ _, (sI_row _ _ _ _ _ (by omega)).trans (a2.2 _ _ (by rcases hP with rfl | rfl <;> rfl)), C1, ?_⟩
        rw [a1, if_pos rfl, gfS_of hP.s0, gfI_of hP.s0, gfI_of hP.s0, e0, e1, ofs_4_3, stI_of hP.s3 m0 (by omega) (by omega), show (44 : Int32) = zI 44 from zI_lit 44, sign_sp C1 hx (by omega) l1 (by decide) (by decide)]
        by_cases w : chA n T q1 = 44
        · rw [if_pos w, if_pos w, cI_rI, if0z, gdK_of hP.s0]
        · rw [if_neg w, if_neg w, cI_rI, if_neg (by rw [zI_0, zI_eq (by omega) (by decide)]; omega)]
      have bM : ∀ τ, MP n T pl τ → τ.1 102 70 = zI m → isRow 147 m S τ → ∃ τ', Fr (SMpa m.toNat) τ τ' ∧ τ'.1 149 m.toNat = zI u1 ∧ τ'.1 150 m.toNat = τ.1 150 m.toNat ∧ MP n T q1 τ' ∧ f_M_readsParents (d2 + 5) τ = if chA n T q1 = 44 then (cI (f_M_readsParent (d2 + 4) 1 (sI τ' 102 8 (zI (q1 + 1)))) fun v8 σ7 => if v8 = 0 then (rZ 0 σ7) else (bnd (σ7.1 102 70) 24 (let σ9 := sI σ7 150 (ix (σ7.1 102 70)) (σ7.1 102 11); rZ 1 σ9))) else rI (zI 0) (sI τ' 102 10 (zI (-1000 - q1))) := fun τ h e hs => by
        obtain ⟨τ', a2, -, a3, a1⟩ := aM τ h e hs
        obtain ⟨e1, e2⟩ := a3 rfl
        have e0 : τ'.1 102 70 = zI m := (a2.2 _ _ rfl).trans e
        have C1 : MP n T q1 (sI τ' 149 m.toNat (zI u1)) := (SMn_fr h a2 e2).fr (S := fun a _ => a == 149) ((Fr.rf _ τ').sI _ (by simp)) rfl (fun _ => rfl) ((sI_row _ _ _ _ _ (by decide)).trans e2)
        refine ⟨_, (sMp a2).sI _ (by simp [SMpa]), sI_same _ _ _ _, (sI_row _ _ _ _ _ (by omega)).trans (a2.2 _ _ rfl), C1, ?_⟩
        rw [a1, if_pos rfl, e0, e1, bnd_zI m0 (by omega) (by omega), ix_zI m0 (by omega)]
        dsimp only
        rw [show (44 : Int32) = zI 44 from zI_lit 44, takes_sp C1 hx (by omega) l1 (by decide) (by decide)]
        by_cases w : chA n T q1 = 44
        · rw [if_pos w, if_pos w, cI_rI, if1z]
        · rw [if_neg w, if_neg w, cI_rI, if0z]; rfl
      by_cases w : chA n T q1 = 44
      · have l2 : q1 + 1 ≤ n := by have := k2 (by omega); omega
        obtain ⟨v2, u2, q2, d1, d2', d3, hN2, hM2⟩ := parBoth hP hx (show 0 ≤ q1 + 1 by omega) l2 m0 (by omega) (Or.inr rfl) hS (d := d) (d2 := d2)
        refine ⟨v2, u1, u2, q2, d1, d2', fun z => ⟨ub, (d3 z).1, by have := (d3 z).2; omega, (d3 z).2.2⟩, fun σ h e hs z3 z4 => ?_, fun τ h e hs z3 z4 => ?_⟩
        · obtain ⟨σ1, f1, f3, f4, C1, eq⟩ := bN σ h e hs
          have e0 : σ1.1 P 0 = zI m := (f1.2 _ _ (by rcases hP with rfl | rfl <;> simp [SRpa, SRn])).trans e
          have ne : P ≠ (5 : Nat) := by rcases hP with rfl | rfl <;> decide
          obtain ⟨σ2, a1, a2, a3⟩ := hN2 _ (C1.up (q1 + 1)) ((sI_row _ _ _ _ _ ne).trans e0) (fun x x0 x1 => (sI_row _ _ _ _ _ (by rcases hP with rfl | rfl <;> decide)).trans ((f1.2 _ _ (by rcases hP with rfl | rfl <;> simp [SRpa, SRn])).trans (hs x x0 x1)))
          have F2 : Fr (SRpa P m.toNat) σ σ2 := (f1.sI _ (by simp [SRpa, SRn])).tr (sNp a2)
          have e02 : σ2.1 P 0 = zI m := (F2.2 _ _ (by rcases hP with rfl | rfl <;> simp [SRpa, SRn])).trans e
          refine ⟨sI σ2 (P + 4) m.toNat (σ2.1 P 10), ?_, F2.sI _ (by simp [SRpa]), fun z => ⟨(sI_row _ _ _ _ _ (by omega)).trans ((a2.2 _ _ (by rcases hP with rfl | rfl <;> simp [SRn])).trans ((sI_row _ _ _ _ _ (by rcases hP with rfl | rfl <;> decide)).trans f3)), (sI_same _ _ _ _).trans (a3 z).1, (sI_row _ _ _ _ _ (by rcases hP with rfl | rfl <;> decide)).trans (a3 z).2⟩⟩
          rw [eq, if_pos w, show (1 : Int32) = zI 1 from zI_lit 1, a1, cI_rI, gfS_of hP.s0, gfI_of hP.s0, gfI_of hP.s0, e02, ofs_4_4, stI_of hP.s4 m0 (by omega) (by omega)]
        · obtain ⟨τ1, f1, f3, f4, C1, eq⟩ := bM τ h e hs
          have e0 : τ1.1 102 70 = zI m := (f1.2 _ _ (by simp [SMpa, SMn])).trans e
          obtain ⟨τ2, a1, a2, a3, a4⟩ := hM2 _ (C1.up (q1 + 1)) ((sI_slot _ _ _ _ (by decide)).trans e0) (fun x x0 x1 => (sI_row _ _ _ _ _ (by decide)).trans ((f1.2 _ _ (by simp [SMpa, SMn])).trans (hs x x0 x1)))
          have F2 : Fr (SMpa m.toNat) τ τ2 := (f1.sI _ (by simp [SMpa, SMn])).tr (sMp a2)
          have e02 : τ2.1 102 70 = zI m := (F2.2 _ _ (by simp [SMpa, SMn])).trans e
          by_cases z : v2 = 0
          · obtain ⟨g1, g2⟩ := a4 z
            refine ⟨sI τ2 150 m.toNat (zI u2), fun K => ?_, F2.sI _ (by simp [SMpa]), fun z' => by omega, fun _ => ⟨(sI_row _ _ _ _ _ (by omega)).trans ((a2.2 _ _ rfl).trans ((sI_row _ _ _ _ _ (by decide)).trans f3)), sI_same _ _ _ _, (sI_row _ _ _ _ _ (by decide)).trans g2⟩⟩
            rw [pM K τ h, eq, if_pos w, show (1 : Int32) = zI 1 from zI_lit 1, a1, cI_rI, if_neg (by rw [bz0]; exact fun y => y z), e02, g1, bnd_zI m0 (by omega) (by omega), ix_zI m0 (by omega), if_pos z]
            rfl
          · refine ⟨τ2, fun K => ?_, F2, a3, fun z' => absurd z' z⟩
            rw [pM K τ h, eq, if_pos w, show (1 : Int32) = zI 1 from zI_lit 1, a1, cI_rI, if_pos (by rw [bz0]; exact z), if_neg z]
            rfl
      · refine ⟨-1000 - q1, 0, 0, 0, by omega, by omega, fun z => by omega, fun σ h e hs z3 z4 => ?_, fun τ h e hs z3 z4 => ?_⟩
        · obtain ⟨σ1, f1, -, -, -, eq⟩ := bN σ h e hs
          exact ⟨σ1, by rw [eq, if_neg w], f1, fun z => by omega⟩
        · obtain ⟨τ1, f1, -, -, -, eq⟩ := bM τ h e hs
          refine ⟨_, fun K => ?_, f1.sI (a := 102) (k := 10) (zI (-1000 - q1)) (by simp [SMpa, SMn]), fun _ => sI_same _ _ _ _, fun z => by omega⟩
          rw [pM K τ h, eq, if_neg w, if_neg (by omega)]
          rfl
    · refine ⟨v1, 0, 0, 0, b1, b2, fun z => absurd z v0, fun σ h e hs z3 z4 => ?_, fun τ h e hs z3 z4 => ?_⟩
      · obtain ⟨σ', a2, a3, a1⟩ := aN σ h e hs
        exact ⟨σ', by rw [a1, if_neg v0], sNp a2, fun z => absurd z v0⟩
      · obtain ⟨τ', a2, a3, -, a1⟩ := aM τ h e hs
        refine ⟨τ', fun K => ?_, sMp a2, a3, fun z => absurd z v0⟩
        rw [pM K τ h, a1, if_neg v0, if_neg v0]
        rfl
  · refine ⟨0, -1, -1, pl, by omega, by omega, fun _ => ⟨Or.inl rfl, Or.inl rfl, Int.le_refl _, p1⟩, fun σ h e hs z3 z4 => ⟨σ, ?_, Fr.rf _ _, fun _ => ⟨z3, z4, h.2⟩⟩, fun τ h e hs z3 z4 => ⟨τ, fun K => ?_, Fr.rf _ _, fun z => by omega, fun _ => ⟨z3, z4, h.2.1⟩⟩⟩
    · rw [f_Roll_readParents_eq, h.now hx p0 p1, cI_rI, show (60 : Int32) = zI 60 from zI_lit 60, ifEq (by omega) (by decide), if_neg q]; rfl
    · unfold mPar
      rw [h.here hx p0 p1, cI_rI, show (60 : Int32) = zI 60 from zI_lit 60, ifEq (by omega) (by decide), if_neg q, if_pos rfl]
