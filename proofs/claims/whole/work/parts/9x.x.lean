/-! a roll: a wedding, in both -/
def SRwd (P a k : Nat) : Bool := SRn P a k || a == P + 5
def SMwd (a k : Nat) : Bool := SMn a k || a == 151 || (a == 102 && k == 70)
def wD (D : Int → Int) (m d1 : Int) : Int → Int := if d1 = -1 then mup D m (-1) else mup (mup D m d1) d1 m
noncomputable def mWed (d : Nat) (τ : Sg) : Rs := cI (f_M_here d τ) fun v τ => if v = 38 then (cI (f_M_readsWedding d τ) fun v τ => if v = 0 then rZ 0 τ else (let τ' := sI τ 102 70 ((τ.1 102 70) + 1); rZ 1 τ')) else (let τ' := sI τ 102 70 ((τ.1 102 70) + 1); rZ 1 τ')
theorem spouseBoth {n pl m s : Int} {T S D : Int → Int} {P : Nat} (hP : isP P) (hx : TX n T) (p0 : 0 ≤ pl) (p1 : pl ≤ n) (m0 : 0 ≤ m) (m24 : m < 24) (hs : s = 0 ∨ s = 1) (hS : ∀ x, 0 ≤ x → x < m → S x = 0 ∨ S x = 1) (hD : ∀ x, 0 ≤ x → x < m → -1 ≤ D x ∧ D x < m) (d d2 : Nat) : ∃ v d1 pl' : Int, -10000 < v ∧ v ≤ 0 ∧ (v = 0 → (d1 = -1 ∨ 0 ≤ d1 ∧ d1 < m ∧ S d1 ≠ s ∧ D d1 = -1) ∧ pl ≤ pl' ∧ pl' ≤ n) ∧
    (∀ σ, CP n T pl σ → σ.1 P 0 = zI m → isRow (P + 1) (m + 1) (mup S m s) σ → isRow (P + 5) (m + 1) (mup D m (-1)) σ → ∃ σ', f_Roll_readSpouse (d + 3) P σ = rI (zI v) σ' ∧ Fr (SRwd P) σ σ' ∧ (v = 0 → isRow (P + 5) (m + 1) (wD D m d1) σ' ∧ σ'.1 5 4 = zI pl')) ∧
    (∀ τ, MP n T pl τ → τ.1 102 70 = zI m → isRow 147 (m + 1) (mup S m s) τ → isRow 151 (m + 1) (mup D m (-1)) τ → ∃ τ', mWed (d2 + 5) τ = rI (bz (decide (v = 0))) τ' ∧ Fr SMwd τ τ' ∧ (v < 0 → τ'.1 102 10 = zI v) ∧ (v = 0 → isRow 151 (m + 1) (wD D m d1) τ' ∧ τ'.1 102 8 = zI pl' ∧ τ'.1 102 70 = zI (m + 1))) := by
  have n260 := hx.2.1
  obtain ⟨c0, c1, c2⟩ := hx.ch p0
  have sNp : ∀ {σ σ' : Sg}, Fr (SRn P) σ σ' → Fr (SRwd P) σ σ' := fun F => F.mono fun a k e => by simp only [SRwd, Bool.or_eq_false_iff] at e; exact e.1
  have sMp : ∀ {σ σ' : Sg}, Fr SMn σ σ' → Fr SMwd σ σ' := fun F => F.mono fun a k e => by simp only [SMwd, Bool.or_eq_false_iff] at e; exact e.1.1
  have S5 : SH (P + 5) = (14, 24) := hP.s5
  by_cases q : chA n T pl = 38
  · have p2 : pl + 1 ≤ n := by have := c2 (by omega); omega
    obtain ⟨v1, u, q1, b1, b2, b3, hN, hM⟩ := numBoth hP hx (show 0 ≤ pl + 1 by omega) p2 m0 (by omega) (d + 0) (d2 + 1)
    have aN : ∀ σ, CP n T pl σ → σ.1 P 0 = zI m → ∃ σ', Fr (SRn P) σ σ' ∧ (v1 = 0 → σ'.1 P 10 = zI u ∧ σ'.1 5 4 = zI q1) ∧ f_Roll_readSpouse (d + 3) P σ = if v1 = 0 then (gfS 4 P 1 fun v6 => gfI 4 P 10 σ' fun v7 => ldI v6 v7 σ' fun v8 => gfS 4 P 1 fun v9 => gfI 4 P 0 σ' fun v10 => ldI v9 v10 σ' fun v11 => if v8 = v11 then (cI (f_N_fault (d + 2) (zI 8) (zI (pl + 1)) σ') fun v13 σ12 => rI v13 σ12) else (gfS 4 P 5 fun v14 => gfI 4 P 10 σ' fun v15 => ldI v14 v15 σ' fun v16 => if v16 = zI (-1) then (gfS 4 P 5 fun v17 => gfI 4 P 0 σ' fun v18 => gfI 4 P 10 σ' fun v19 => stI v17 v18 v19 σ' fun σ20 => gfS 4 P 5 fun v21 => gfI 4 P 10 σ20 fun v22 => gfI 4 P 0 σ20 fun v23 => stI v21 v22 v23 σ20 fun σ24 => rI (zI 0) σ24) else (cI (f_N_fault (d + 2) (zI 8) (zI (pl + 1)) σ') fun v26 σ25 => rI v26 σ25))) else rI (zI v1) σ' := fun σ h e => by
      have F1 : Fr (SRn P) σ (sI σ 5 4 (zI (pl + 1))) := (Fr.rf _ σ).sI _ (by simp [SRn])
      have ne : P ≠ (5 : Nat) := by rcases hP with rfl | rfl <;> decide
      obtain ⟨σ', a1, a2, a3⟩ := hN _ (h.up (pl + 1)) ((sI_row _ _ _ _ _ ne).trans e)
      refine ⟨σ', F1.tr a2, a3, ?_⟩
      rw [f_Roll_readSpouse_eq, h.now hx p0 p1, cI_rI, show (38 : Int32) = zI 38 from zI_lit 38, ifEq (by omega) (by decide), if_pos q]
      dsimp only
      have a1 : f_Roll_readNumber (d + 2) P (sI σ 5 4 (zI (pl + 1))) = rI (zI v1) σ' := a1
      rw [h.nx, gdK_of hP.s0, a1, cI_rI, ifV b2 b1, show (sI σ 5 4 (zI (pl + 1))).1 5 4 = zI (pl + 1) from sI_same _ _ _ _]
      rfl
    have aM : ∀ τ, MP n T pl τ → τ.1 102 70 = zI m → ∃ τ', Fr SMn τ τ' ∧ (v1 < 0 → τ'.1 102 10 = zI v1) ∧ (v1 = 0 → τ'.1 102 11 = zI u ∧ τ'.1 102 8 = zI q1) ∧ f_M_readsWedding (d2 + 5) τ = if v1 = 0 then (bnd (τ'.1 102 11) 24 (bnd (τ'.1 102 70) 24 (if (τ'.1 147 (ix (τ'.1 102 11))) = (τ'.1 147 (ix (τ'.1 102 70))) then (cI (f_M_wrongAt (d2 + 4) (zI 8) (zI (pl + 1)) τ') fun v5 σ4 => rZ v5 σ4) else (bnd (τ'.1 102 11) 24 (if (τ'.1 151 (ix (τ'.1 102 11))) = zI (-1) then (bnd (τ'.1 102 70) 24 (let σ6 := sI τ' 151 (ix (τ'.1 102 70)) (τ'.1 102 11); bnd (σ6.1 102 11) 24 (let σ7 := sI σ6 151 (ix (σ6.1 102 11)) (σ6.1 102 70); rZ 1 σ7))) else (cI (f_M_wrongAt (d2 + 4) (zI 8) (zI (pl + 1)) τ') fun v9 σ8 => rZ v9 σ8)))))) else rI (zI 0) τ' := fun τ h e => by
      have F1 : Fr SMn τ (sI τ 102 8 (zI (pl + 1))) := (Fr.rf _ τ).sI _ rfl
      obtain ⟨τ', a1, a2, a3, a4⟩ := hM _ (h.up (pl + 1)) ((sI_slot _ _ _ _ (by decide)).trans e)
      refine ⟨τ', F1.tr a2, a3, a4, ?_⟩
      have a1 : f_M_readsLower (d2 + 4) (sI τ 102 8 (zI (pl + 1))) = rI (bz (decide (v1 = 0))) τ' := a1
      rw [f_M_readsWedding_eq]
      dsimp only
      rw [h.nx, a1, cI_rI, ifBz, show (sI τ 102 8 (zI (pl + 1))).1 102 8 = zI (pl + 1) from sI_same _ _ _ _]
      rfl
    have pM : ∀ τ, MP n T pl τ → mWed (d2 + 5) τ = cI (f_M_readsWedding (d2 + 5) τ) fun v τ => if v = 0 then rZ 0 τ else (let τ' := sI τ 102 70 ((τ.1 102 70) + 1); rZ 1 τ') := fun τ h => by
      unfold mWed
      rw [h.here hx p0 p1, cI_rI, show (38 : Int32) = zI 38 from zI_lit 38, ifEq (by omega) (by decide), if_pos q]
    by_cases v0 : v1 = 0
    · subst v0
      obtain ⟨u0, u1, l0, l1⟩ := b3 rfl
      have hu := hS u u0 u1
      have hd := hD u u0 u1
      have bN : ∀ σ, CP n T pl σ → σ.1 P 0 = zI m → isRow (P + 1) (m + 1) (mup S m s) σ → isRow (P + 5) (m + 1) (mup D m (-1)) σ → ∃ σ', Fr (SRn P) σ σ' ∧ σ'.1 5 4 = zI q1 ∧ f_Roll_readSpouse (d + 3) P σ = if S u = s ∨ D u ≠ -1 then rI (zI (-8000 - (pl + 1))) σ' else rI (zI 0) (sI (sI σ' (P + 5) m.toNat (zI u)) (P + 5) u.toNat (zI m)) := fun σ h e h1 h5 => by
        obtain ⟨σ', a2, a3, a1⟩ := aN σ h e
        obtain ⟨e1, e2⟩ := a3 rfl
        have e0 : σ'.1 P 0 = zI m := (a2.2 _ _ (by rcases hP with rfl | rfl <;> rfl)).trans e
        have k1 : ∀ x : Int, 0 ≤ x → x < m + 1 → σ'.1 (P + 1) x.toNat = zI (mup S m s x) := fun x x0 x1 => (a2.2 _ _ (by rcases hP with rfl | rfl <;> rfl)).trans (h1 x x0 x1)
        have k5 : ∀ x : Int, 0 ≤ x → x < m + 1 → σ'.1 (P + 5) x.toNat = zI (mup D m (-1) x) := fun x x0 x1 => (a2.2 _ _ (by rcases hP with rfl | rfl <;> rfl)).trans (h5 x x0 x1)
        refine ⟨σ', a2, e2, ?_⟩
        rw [a1, if_pos rfl, gfS_of hP.s0, gfI_of hP.s0, e1, ofs_4_1, ldi_of hP.s1 u0 (by omega) (by omega), k1 u u0 (by omega), mup_ne (by omega), gfS_of hP.s0, gfI_of hP.s0, e0, ofs_4_1, ldi_of hP.s1 m0 (by omega) (by omega), k1 m m0 (by omega), mup_same, ifEq (by omega) (by omega)]
        by_cases w : S u = s
        · rw [if_pos w, if_pos (Or.inl w), nfault_sp, cI_rI]; rfl
        · rw [if_neg w, gfS_of hP.s0, gfI_of hP.s0, e1, ofs_4_5, ldi_of hP.s5 u0 (by omega) (by omega), k5 u u0 (by omega), mup_ne (by omega), ifEq (by omega) (by decide)]
          by_cases w2 : D u = -1
          · rw [if_pos w2, if_neg (by omega), gfS_of hP.s0, gfI_of hP.s0, gfI_of hP.s0, e0, e1, ofs_4_5, stI_of hP.s5 m0 (by omega) (by omega), gfS_of hP.s0, gfI_of hP.s0, gfI_of hP.s0, sI_row _ _ _ _ _ (by omega), sI_row _ _ _ _ _ (by omega), e0, e1, ofs_4_5, stI_of hP.s5 u0 (by omega) (by omega)]
          · rw [if_neg w2, if_pos (Or.inr w2), nfault_sp, cI_rI]; rfl
      have bM : ∀ τ, MP n T pl τ → τ.1 102 70 = zI m → isRow 147 (m + 1) (mup S m s) τ → isRow 151 (m + 1) (mup D m (-1)) τ → ∃ τ', Fr SMn τ τ' ∧ τ'.1 102 8 = zI q1 ∧ τ'.1 102 70 = zI m ∧ f_M_readsWedding (d2 + 5) τ = if S u = s ∨ D u ≠ -1 then rI (zI 0) (sI τ' 102 10 (zI (-8000 - (pl + 1)))) else rI (zI 1) (sI (sI τ' 151 m.toNat (zI u)) 151 u.toNat (zI m)) := fun τ h e h1 h5 => by
        obtain ⟨τ', a2, -, a3, a1⟩ := aM τ h e
        obtain ⟨e1, e2⟩ := a3 rfl
        have e0 : τ'.1 102 70 = zI m := (a2.2 _ _ rfl).trans e
        have k1 : ∀ x : Int, 0 ≤ x → x < m + 1 → τ'.1 147 x.toNat = zI (mup S m s x) := fun x x0 x1 => (a2.2 _ _ rfl).trans (h1 x x0 x1)
        have k5 : ∀ x : Int, 0 ≤ x → x < m + 1 → τ'.1 151 x.toNat = zI (mup D m (-1) x) := fun x x0 x1 => (a2.2 _ _ rfl).trans (h5 x x0 x1)
        refine ⟨τ', a2, e2, e0, ?_⟩
        rw [a1, if_pos rfl, e0, e1, bnd_zI u0 (by omega) (by omega), bnd_zI m0 (by omega) (by omega), ix_zI u0 (by omega), ix_zI m0 (by omega), k1 u u0 (by omega), mup_ne (by omega), k1 m m0 (by omega), mup_same, ifEq (by omega) (by omega)]
        by_cases w : S u = s
        · rw [if_pos w, if_pos (Or.inl w), wrongAt_sp, cI_rI, rZ_z0]; rfl
        · rw [if_neg w, bnd_zI u0 (by omega) (by omega), k5 u u0 (by omega), mup_ne (by omega), ifEq (by omega) (by decide)]
          by_cases w2 : D u = -1
          · rw [if_pos w2, if_neg (by omega), bnd_zI m0 (by omega) (by omega)]
            dsimp only
            rw [sI_row _ _ _ _ _ (by decide), sI_row _ _ _ _ _ (by decide), e0, e1, bnd_zI u0 (by omega) (by omega), ix_zI u0 (by omega)]
            rfl
          · rw [if_neg w2, if_pos (Or.inr w2), wrongAt_sp, cI_rI, rZ_z0]; rfl
      by_cases w : S u = s ∨ D u ≠ -1
      · refine ⟨-8000 - (pl + 1), 0, 0, by omega, by omega, fun z => by omega, fun σ h e h1 h5 => ?_, fun τ h e h1 h5 => ?_⟩
        · obtain ⟨σ', a2, -, a1⟩ := bN σ h e h1 h5
          exact ⟨σ', by rw [a1, if_pos w], sNp a2, fun z => by omega⟩
        · obtain ⟨τ', a2, -, -, a1⟩ := bM τ h e h1 h5
          refine ⟨_, ?_, (sMp a2).sI (a := 102) (k := 10) (zI (-8000 - (pl + 1))) (by simp [SMwd, SMn]), fun _ => sI_same _ _ _ _, fun z => by omega⟩
          rw [pM τ h, a1, if_pos w, cI_rI, if0z, bzn (by omega)]; rfl
      · have hr : ∀ (σ : Sg) (a : Nat), isRow a (m + 1) (mup D m (-1)) σ → isRow a (m + 1) (wD D m u) (sI (sI σ a m.toNat (zI u)) a u.toNat (zI m)) := fun σ a h x x0 x1 => by
          unfold wD
          rw [if_neg (by omega)]
          by_cases y : x = u
          · subst y; rw [sI_same, mup_same]
          · rw [sI_slot _ _ _ _ (by omega), mup_ne y]
            by_cases y2 : x = m
            · subst y2; rw [sI_same, mup_same]
            · rw [sI_slot _ _ _ _ (by omega), mup_ne y2, h x x0 x1, mup_ne y2]
        refine ⟨0, u, q1, by omega, by omega, fun _ => ⟨Or.inr ⟨u0, u1, fun z => w (Or.inl z), Classical.byContradiction fun z => w (Or.inr z)⟩, by omega, l1⟩, fun σ h e h1 h5 => ?_, fun τ h e h1 h5 => ?_⟩
        · obtain ⟨σ', a2, e2, a1⟩ := bN σ h e h1 h5
          refine ⟨_, by rw [a1, if_neg w], ((sNp a2).sI _ (by simp [SRwd])).sI _ (by simp [SRwd]), fun _ => ⟨hr σ' (P + 5) fun x x0 x1 => (a2.2 _ _ (by rcases hP with rfl | rfl <;> rfl)).trans (h5 x x0 x1), (sI_row _ _ _ _ _ (by rcases hP with rfl | rfl <;> decide)).trans ((sI_row _ _ _ _ _ (by rcases hP with rfl | rfl <;> decide)).trans e2)⟩⟩
        · obtain ⟨τ', a2, e2, e3, a1⟩ := bM τ h e h1 h5
          refine ⟨sI (sI (sI τ' 151 m.toNat (zI u)) 151 u.toNat (zI m)) 102 70 (zI (m + 1)), ?_, (((sMp a2).sI _ (by simp [SMwd])).sI _ (by simp [SMwd])).sI _ (by simp [SMwd]), fun z => by omega, fun _ => ⟨fun x x0 x1 => (sI_row _ _ _ _ _ (by decide)).trans (hr τ' 151 (fun x x0 x1 => (a2.2 _ _ rfl).trans (h5 x x0 x1)) x x0 x1), (sI_slot _ _ _ _ (by decide)).trans e2, sI_same _ _ _ _⟩⟩
          rw [pM τ h, a1, if_neg w, cI_rI, if1z, bzz]
          dsimp only
          rw [sI_row _ _ _ _ _ (by decide), sI_row _ _ _ _ _ (by decide), e3, show (1 : Int32) = zI 1 from zI_lit 1, zI_add]
          rfl
    · refine ⟨v1, 0, 0, b1, b2, fun z => absurd z v0, fun σ h e h1 h5 => ?_, fun τ h e h1 h5 => ?_⟩
      · obtain ⟨σ', a2, a3, a1⟩ := aN σ h e
        exact ⟨σ', by rw [a1, if_neg v0], sNp a2, fun z => absurd z v0⟩
      · obtain ⟨τ', a2, a3, -, a1⟩ := aM τ h e
        refine ⟨τ', ?_, sMp a2, a3, fun z => absurd z v0⟩
        rw [pM τ h, a1, if_neg v0, cI_rI, if0z, bzn (by omega)]
        rfl
  · refine ⟨0, -1, pl, by omega, by omega, fun _ => ⟨Or.inl rfl, Int.le_refl _, p1⟩, fun σ h e h1 h5 => ⟨σ, ?_, Fr.rf _ _, fun _ => ⟨?_, h.2⟩⟩, fun τ h e h1 h5 => ⟨sI τ 102 70 (zI (m + 1)), ?_, (Fr.rf _ τ).sI _ rfl, fun z => by omega, fun _ => ⟨?_, (sI_slot _ _ _ _ (by decide)).trans h.2.1, sI_same _ _ _ _⟩⟩⟩
    · rw [f_Roll_readSpouse_eq, h.now hx p0 p1, cI_rI, show (38 : Int32) = zI 38 from zI_lit 38, ifEq (by omega) (by decide), if_neg q]; rfl
    · unfold wD; rw [if_pos rfl]; exact h5
    · unfold mWed
      rw [h.here hx p0 p1, cI_rI, show (38 : Int32) = zI 38 from zI_lit 38, ifEq (by omega) (by decide), if_neg q, bzz]
      dsimp only
      rw [e, show (1 : Int32) = zI 1 from zI_lit 1, zI_add]
      rfl
    · unfold wD; rw [if_pos rfl]; exact fun x x0 x1 => (sI_row _ _ _ _ _ (by decide)).trans (h5 x x0 x1)
