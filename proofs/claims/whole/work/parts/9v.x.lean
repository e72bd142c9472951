/-! a roll: a parent, parents, in both -/
theorem n1v {v : Int} (h0 : v ≤ 0) (h1 : -10000 < v) : (zI v = 0) = (v = 0) := by rw [zI_0]; exact zI_eq (by omega) (by decide)
theorem ifV {v : Int} (h0 : v ≤ 0) (h1 : -10000 < v) {X Y : Rs} : (if zI v = (0 : Int32) then X else Y) = if v = 0 then X else Y := by simp only [n1v h0 h1]
theorem bz0 {v : Int} : (bz (decide (v = 0)) = 0) = (v ≠ 0) := by
  by_cases h : v = 0
  · rw [decide_eq_true h, bz_tt]
    exact propext ⟨fun e => absurd e (by decide), fun e => absurd h e⟩
  · rw [decide_eq_false h, bz_ff]
    exact propext ⟨fun _ => h, fun _ => rfl⟩
theorem bzn {v : Int} (h : v < 0) : bz (decide (v = 0)) = zI 0 := by rw [decide_eq_false (by omega)]; rfl
theorem bzz : bz (decide ((0 : Int) = 0)) = zI 1 := rfl
theorem parBoth {n pl m due : Int} {T S : Int → Int} {P : Nat} (hP : isP P) (hx : TX n T) (p0 : 0 ≤ pl) (p1 : pl ≤ n) (m0 : 0 ≤ m) (m24 : m ≤ 24) (hdue : due = 0 ∨ due = 1) (hS : ∀ x, 0 ≤ x → x < m → S x = 0 ∨ S x = 1) (d d2 : Nat) : ∃ v u pl' : Int, -10000 < v ∧ v ≤ 0 ∧ (v = 0 → (u = -1 ∨ 0 ≤ u ∧ u < m ∧ S u = due) ∧ pl < pl' ∧ pl' ≤ n) ∧
    (∀ σ, CP n T pl σ → σ.1 P 0 = zI m → (∀ x, 0 ≤ x → x < m → σ.1 (P + 1) x.toNat = zI (S x)) → ∃ σ', f_Roll_readParent (d + 3) P (zI due) σ = rI (zI v) σ' ∧ Fr (SRn P) σ σ' ∧ (v = 0 → σ'.1 P 10 = zI u ∧ σ'.1 5 4 = zI pl')) ∧
    (∀ τ, MP n T pl τ → τ.1 102 70 = zI m → (∀ x, 0 ≤ x → x < m → τ.1 147 x.toNat = zI (S x)) → ∃ τ', f_M_readsParent (d2 + 4) (zI due) τ = rI (bz (decide (v = 0))) τ' ∧ Fr SMn τ τ' ∧ (v < 0 → τ'.1 102 10 = zI v) ∧ (v = 0 → τ'.1 102 11 = zI u ∧ τ'.1 102 8 = zI pl')) := by
  have n260 := hx.2.1
  have ne : (5 : Nat) ≠ P := by rcases hP with rfl | rfl <;> decide
  obtain ⟨c0, c1, c2⟩ := hx.ch p0
  have z1 : ∀ σ : Sg, CP n T pl σ → CP n T pl (sI σ P 10 (zI (-1))) := fun σ h => h.fr (S := SRn P) ((Fr.rf _ σ).sI _ (by simp [SRn])) (by rcases hP with rfl | rfl <;> rfl) (by rcases hP with rfl | rfl <;> rfl) (fun k => by rcases hP with rfl | rfl <;> rfl) ((sI_row _ _ _ _ _ ne).trans h.2)
  have rN : ∀ σ, CP n T pl σ → f_Roll_readParent (d + 3) P (zI due) σ = if chA n T pl = 45 then rI (zI 0) (sI (sI σ P 10 (zI (-1))) 5 4 (zI (pl + 1))) else (cI (f_Roll_readNumber (d + 2) P (sI σ P 10 (zI (-1)))) fun v6 σ5 => if v6 = 0 then (gfS 4 P 1 fun v7 => gfI 4 P 10 σ5 fun v8 => ldI v7 v8 σ5 fun v9 => if v9 = zI due then (rI (zI 0) σ5) else (cI (f_N_fault (d + 2) (zI 7) (zI pl) σ5) fun v11 σ10 => rI v11 σ10)) else (rI v6 σ5)) := fun σ h => by
    rw [f_Roll_readParent_eq, show ((-1) : Int32) = zI (-1) from rfl, pfI_of hP.s0, (z1 σ h).now hx p0 p1, cI_rI, show (45 : Int32) = zI 45 from zI_lit 45, ifEq (by omega) (by decide)]
    by_cases q : chA n T pl = 45
    · rw [if_pos q, if_pos q]
      dsimp only
      rw [(z1 σ h).nx]; rfl
    · rw [if_neg q, if_neg q, gdK_of hP.s0, (z1 σ h).2]; rfl
  have rM : ∀ τ, MP n T pl τ → f_M_readsParent (d2 + 4) (zI due) τ = if chA n T pl = 45 then rI (zI 1) (sI (sI τ 102 8 (zI (pl + 1))) 102 11 (zI (-1))) else (cI (f_M_readsLower (d2 + 3) τ) fun v6 σ5 => if v6 = 0 then (rI (zI 0) σ5) else (bnd (σ5.1 102 11) 24 (if (σ5.1 147 (ix (σ5.1 102 11))) = zI due then (rI (zI 1) σ5) else (cI (f_M_wrongAt (d2 + 3) (zI 7) (zI pl) σ5) fun v8 σ7 => if v8 = 0 then (rI (zI 0) σ7) else (rI (zI 1) σ7))))) := fun τ h => by
    rw [f_M_readsParent_eq, h.here hx p0 p1, cI_rI, show (45 : Int32) = zI 45 from zI_lit 45, ifEq (by omega) (by decide)]
    by_cases q : chA n T pl = 45
    · rw [if_pos q, if_pos q]
      dsimp only
      rw [h.nx]; rfl
    · rw [if_neg q, if_neg q, h.2.1]; rfl
  by_cases q : chA n T pl = 45
  · refine ⟨0, -1, pl + 1, by omega, by omega, fun _ => ⟨Or.inl rfl, by omega, by have := c2 (by omega); omega⟩, fun σ h e hs => ⟨_, by rw [rN σ h, if_pos q], ((Fr.rf _ σ).sI _ (by simp [SRn])).sI _ (by simp [SRn]), fun _ => ⟨(sI_row _ _ _ _ _ ne.symm).trans (sI_same _ _ _ _), sI_same _ _ _ _⟩⟩, fun τ h e hs => ⟨_, by rw [rM τ h, if_pos q, bzz], ((Fr.rf _ τ).sI _ rfl).sI _ rfl, fun z => by omega, fun _ => ⟨sI_same _ _ _ _, (sI_slot _ _ _ _ (by decide)).trans (sI_same _ _ _ _)⟩⟩⟩
  · obtain ⟨v, u, pl', b1, b2, b3, hN, hM⟩ := numBoth hP hx p0 p1 m0 m24 d d2
    have aN : ∀ σ, CP n T pl σ → σ.1 P 0 = zI m → ∃ σ', f_Roll_readNumber (d + 2) P (sI σ P 10 (zI (-1))) = rI (zI v) σ' ∧ Fr (SRn P) σ σ' ∧ (v = 0 → σ'.1 P 10 = zI u ∧ σ'.1 5 4 = zI pl') := fun σ h e => by
      obtain ⟨σ', a1, a2, a3⟩ := hN _ (z1 σ h) ((sI_slot _ _ _ _ (by decide)).trans e)
      exact ⟨σ', a1, ((Fr.rf _ σ).sI _ (by simp [SRn])).tr a2, a3⟩
    by_cases v0 : v = 0
    · subst v0
      obtain ⟨u0, u1, l0, l1⟩ := b3 rfl
      have su := hS u u0 u1
      have kN : ∀ (σ σ' : Sg), Fr (SRn P) σ σ' → (∀ x, 0 ≤ x → x < m → σ.1 (P + 1) x.toNat = zI (S x)) → σ'.1 (P + 1) u.toNat = zI (S u) := fun σ σ' F hs => (F.2 _ _ (by rcases hP with rfl | rfl <;> rfl)).trans (hs u u0 u1)
      have kM : ∀ (σ σ' : Sg), Fr SMn σ σ' → (∀ x, 0 ≤ x → x < m → σ.1 147 x.toNat = zI (S x)) → σ'.1 147 u.toNat = zI (S u) := fun σ σ' F hs => (F.2 _ _ rfl).trans (hs u u0 u1)
      have eN : ∀ σ, CP n T pl σ → σ.1 P 0 = zI m → (∀ x, 0 ≤ x → x < m → σ.1 (P + 1) x.toNat = zI (S x)) → ∃ σ', f_Roll_readParent (d + 3) P (zI due) σ = rI (zI (if S u = due then 0 else -7000 - pl)) σ' ∧ Fr (SRn P) σ σ' ∧ σ'.1 P 10 = zI u ∧ σ'.1 5 4 = zI pl' := fun σ h e hs => by
        obtain ⟨σ', a1, a2, a3⟩ := aN σ h e
        obtain ⟨e1, e2⟩ := a3 rfl
        refine ⟨σ', ?_, a2, e1, e2⟩
        rw [rN σ h, if_neg q, a1, cI_rI, if0z, gfS_of hP.s0, gfI_of hP.s0, e1, ofs_4_1, ldi_of hP.s1 u0 (by omega) (by omega), kN σ σ' a2 hs, ifEq (by omega) (by omega)]
        by_cases w : S u = due
        · rw [if_pos w, if_pos w]
        · rw [if_neg w, if_neg w, nfault_sp, cI_rI]
          exact congrArg (rI · σ') (congrArg zI (by omega))
      have eM : ∀ τ, MP n T pl τ → τ.1 102 70 = zI m → (∀ x, 0 ≤ x → x < m → τ.1 147 x.toNat = zI (S x)) → ∃ τ', f_M_readsParent (d2 + 4) (zI due) τ = (if S u = due then rI (zI 1) τ' else rI (zI 0) (sI τ' 102 10 (zI (-7000 - pl)))) ∧ Fr SMn τ τ' ∧ τ'.1 102 11 = zI u ∧ τ'.1 102 8 = zI pl' := fun τ h e hs => by
        obtain ⟨τ', a1, a2, -, a3⟩ := hM τ h e
        obtain ⟨e1, e2⟩ := a3 rfl
        refine ⟨τ', ?_, a2, e1, e2⟩
        rw [rM τ h, if_neg q, a1, cI_rI, bzz, if1z, e1, bnd_zI u0 (by omega) (by omega), ix_zI u0 (by omega), kM τ τ' a2 hs, ifEq (by omega) (by omega)]
        by_cases w : S u = due
        · rw [if_pos w, if_pos w]
        · rw [if_neg w, if_neg w, wrongAt_sp, cI_rI, if0z, show (-1000 * 7 - pl : Int) = -7000 - pl by omega]
      by_cases w : S u = due
      · refine ⟨0, u, pl', by omega, by omega, fun _ => ⟨Or.inr ⟨u0, u1, w⟩, l0, l1⟩, fun σ h e hs => ?_, fun τ h e hs => ?_⟩
        · obtain ⟨σ', a1, a2, a3⟩ := eN σ h e hs
          exact ⟨σ', by rw [a1, if_pos w], a2, fun _ => a3⟩
        · obtain ⟨τ', a1, a2, a3⟩ := eM τ h e hs
          exact ⟨τ', by rw [a1, if_pos w, bzz], a2, fun z => by omega, fun _ => a3⟩
      · refine ⟨-7000 - pl, 0, 0, by omega, by omega, fun z => by omega, fun σ h e hs => ?_, fun τ h e hs => ?_⟩
        · obtain ⟨σ', a1, a2, a3⟩ := eN σ h e hs
          exact ⟨σ', by rw [a1, if_neg w], a2, fun z => by omega⟩
        · obtain ⟨τ', a1, a2, a3⟩ := eM τ h e hs
          exact ⟨_, by rw [a1, if_neg w, bzn (by omega)], a2.sI _ rfl, fun _ => sI_same _ _ _ _, fun z => by omega⟩
    · refine ⟨v, u, pl', b1, b2, fun z => absurd z v0, fun σ h e hs => ?_, fun τ h e hs => ?_⟩
      · obtain ⟨σ', a1, a2, a3⟩ := aN σ h e
        refine ⟨σ', ?_, a2, a3⟩
        rw [rN σ h, if_neg q, a1, cI_rI, if_neg (by rw [n1v b2 b1]; exact v0)]
      · obtain ⟨τ', a1, a2, a3⟩ := hM τ h e
        refine ⟨τ', ?_, a2, a3⟩
        rw [rM τ h, if_neg q, a1, cI_rI, if_pos (by rw [bz0]; exact v0), bzn (by omega)]
