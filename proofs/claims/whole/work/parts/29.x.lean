theorem run_sp {l la : Nat} {c w : Int → Int} {fac : Int → Int32} (hl : isL l) (hla : la = 91 ∨ la = 96) {σ : Sg} (h1 : rd σ (l + 5) = c) (h2 : rd σ (l + 6) = w) (h3 : ∀ j : Int, 0 ≤ j → j < 8 → σ.1 la j.toNat = fac j) {p q : Int} (h0 : 0 ≤ p) (hq : q ≤ 240) {v : Option Int32} (C : CSem l la c w fac p q 60 v) {d : Nat} : ∃ σ', f_Law_run (d + 6) l (zI p) (zI q) la σ = rI (v.getD (zI 0)) σ' ∧ Fr (SL l) σ σ' := by
  have hl' := hl.le
  have F0 : Fr (SL l) σ (sI (sI σ l 9 (zI 0)) l 10 (zI 0)) := ((Fr.rf _ σ).sI _ (by simp [SL])).sI _ (by simp [SL])
  have e0 : f_Law_run (d + 6) l (zI p) (zI q) la σ = f_Law_run_16 (d + 5) l (.int (zI p)) (zI q) la (zI p) (zI p) .null (sI (sI σ l 9 (zI 0)) l 10 (zI 0)) := by
    rw [f_Law_run_eq, pfI_of hl.s0, zI_0, pfZ_0 hl.s0]
  generalize hσ : sI (sI σ l 9 (zI 0)) l 10 (zI 0) = σ0 at e0 F0
  have H0 : LSt l la c w fac 0 (fun _ => 0) σ0 := by
    refine ⟨(fr_row F0 fun k => by simp [SL]).trans h1, (fr_row F0 fun k => by simp [SL]).trans h2, fun j j0 j8 => (F0.2 la _ (by simp [SL]; omega)).trans (h3 j j0 j8), ?_, ?_, fun j j0 j1 => by omega⟩
    · rw [← hσ]; simp (disch := first | assumption | omega) only [rd_other, rd_same]
    · rw [← hσ]; simp (disch := first | assumption | omega) only [rd_other, rd_same]
  rw [e0]
  rcases C d σ0 0 _ q (.int (zI p)) .null p H0 (by decide) (by decide) (Int.le_refl _) hq h0 (Int.le_refl _) with ⟨x, rfl, σ1, x6, sk, e1, s0, s1, H1, F1⟩ | ⟨rfl, σ1, e1, F1⟩
  · refine ⟨σ1, ?_, F0.tr F1⟩
    have z10 : σ1.1 l 10 = 0 := (rd_k σ1 l 10).trans (congrArg zI H1.2.2.2.2.1)
    rw [e1, f_Law_run_16_eq, if_neg Int32.lt_irrefl, gfI_of hl.s0, if_pos z10, gdK_of hl.s0, top_sp hl H1 (by decide) (by decide), cI_rI]
    rfl
  · exact ⟨σ1, e1, F0.tr F1⟩
theorem mrun_sp {mc : Int → Int} {fac : Int → Int32} {σ : Sg} (h1 : rd σ 115 = mc) (h3 : ∀ j : Int, 0 ≤ j → j < 8 → σ.1 121 j.toNat = fac j) {p q : Int} (h0 : 0 ≤ p) (hpq : p ≤ q) (hq : q ≤ 240) {v : Option Int32} (C : MSem mc fac p q 60 v) {d : Nat} : ∃ σ', f_M_reckonsTo (d + 2) (zI p) (zI q) σ = rI (v.getD (zI 0)) σ' ∧ Fr S120 σ σ' := by
  have e0 : f_M_reckonsTo (d + 2) (zI p) (zI q) σ = f_M_reckonsTo_16 (d + 1) (.int (zI p)) (zI q) (zI 0) (zI 0) (zI p) .null .null σ := by
    rw [f_M_reckonsTo_eq, zI_lit, dvI_nn h0 (by omega) (by decide) (by decide), zI_mul, zI_0, show 260 * (p / 260) = 0 by omega]
  rw [e0]
  rcases C d σ 0 (fun _ => 0) q (.int (zI p)) .null .null ⟨h1, h3, fun j j0 j1 => by omega⟩ (by decide) (by decide) (Int.le_refl _) hq with ⟨x, rfl, σ1, x6, x7, e1, H1, F1⟩ | ⟨rfl, σ1, e1, F1⟩
  · refine ⟨σ1, ?_, F1⟩
    have := H1.2.2 0 (by decide) (by decide)
    rw [e1, f_M_reckonsTo_16_eq, if_neg Int32.lt_irrefl, zI_0, bnd_zI (by decide) (by decide) (by decide), ix_zI (by decide) (by decide), this]
    rfl
  · exact ⟨σ1, e1, F1⟩
/-- what a stretch of code comes to -/
noncomputable def lv (l la : Nat) (c w mc : Int → Int) (fac : Int → Int32) (p q : Int) : Option Int32 := Classical.epsilon fun v => CSem l la c w fac p q 60 v ∧ MSem mc fac p q 60 v ∧ ((∃ f, WX c w f true p q 60) → v = none ∨ v = some 0 ∨ v = some 1)
theorem WX_up {c w : Int → Int} : ∀ {f : Nat} {b : Bool} {p q k : Int}, WX c w f b p q k → WX c w (f + 1) b p q k
  | 0, _, _, _, _, h => False.elim h
  | f + 1, false, p, q, k, h => by
    obtain ⟨h1, h2 | ⟨m, a, b, o⟩⟩ := h
    · exact ⟨h1, Or.inl h2⟩
    · exact ⟨h1, Or.inr ⟨m, WX_up a, WX_up b, o⟩⟩
  | f + 1, true, p, q, k, h => by
    obtain ⟨h1, ⟨m, a, b, o⟩ | ⟨a, o⟩ | ⟨m, a, o, e, b⟩⟩ := h
    · exact ⟨h1, Or.inl ⟨m, WX_up a, WX_up b, o⟩⟩
    · exact ⟨h1, Or.inr (Or.inl ⟨WX_up a, o⟩)⟩
    · exact ⟨h1, Or.inr (Or.inr ⟨m, WX_up a, o, e, WX_up b⟩)⟩
theorem lv_sp {c w mc : Int → Int} {l la : Nat} {fac : Int → Int32} (hl : isL l) (hla : la = 91 ∨ la = 96) {f : Nat} {b : Bool} {p q : Int} (h : WX c w f b p q 60) (h0 : 0 ≤ p) (hq : q ≤ 240) (hC : ∀ j, p ≤ j → j < q → CEq (c j) (w j) (mc j)) : CSem l la c w fac p q 60 (lv l la c w mc fac p q) ∧ MSem mc fac p q 60 (lv l la c w mc fac p q) ∧ (b = true → lv l la c w mc fac p q = none ∨ lv l la c w mc fac p q = some 0 ∨ lv l la c w mc fac p q = some 1) := by
  have hex : ∃ v, CSem l la c w fac p q 60 v ∧ MSem mc fac p q 60 v ∧ ((∃ f, WX c w f true p q 60) → v = none ∨ v = some 0 ∨ v = some 1) := by
    by_cases z : ∃ f, WX c w f true p q 60
    · obtain ⟨f', hf⟩ := z
      obtain ⟨v, a, b, g⟩ := wx_run hl hla (mc := mc) (fac := fac) hf h0 hq hC
      exact ⟨v, a, b, fun _ => g rfl⟩
    · obtain ⟨v, a, b, g⟩ := wx_run hl hla (mc := mc) (fac := fac) h h0 hq hC
      exact ⟨v, a, b, fun y => absurd y z⟩
  obtain ⟨a, b', g⟩ := Classical.epsilon_spec hex
  exact ⟨a, b', fun e => g ⟨f, by rw [← e]; exact h⟩⟩
/-- the data of a law -/
abbrev LD : Type := Int × (Int → Int) × (Int → Int) × (Int → Int) × (Int → Int) × (Int → Int) × (Int → Int) × (Int → Int)
def ldAt (l : Nat) (σ : Sg) : LD := (rd σ l 0, rd σ (l + 1), rd σ (l + 2), rd σ (l + 3), rd σ (l + 4), rd σ (l + 5), rd σ (l + 6), rd σ 115)
noncomputable def lHold (l la : Nat) (D : LD) (fac : Int → Int32) (kind : Int) (i : Int) : Bool := decide (D.2.1 i = kind ∧ lv l la D.2.2.2.2.2.1 D.2.2.2.2.2.2.1 D.2.2.2.2.2.2.2 fac (D.2.2.2.1 i) (D.2.2.2.2.1 i) = some 1)
def clampI (most : Int) (v : Option Int32) : Int := max 0 (min (v.getD (zI 0)).toInt most)
noncomputable def lWorth (l la : Nat) (D : LD) (fac : Int → Int32) (kind no most : Int) : Nat → Int → Int
  | 0, _ => no
  | k + 1, i => if lHold l la D fac kind i = true then clampI most (lv l la D.2.2.2.2.2.1 D.2.2.2.2.2.2.1 D.2.2.2.2.2.2.2 fac (D.2.2.1 i) (D.2.2.2.1 i)) else lWorth l la D fac kind no most k (i + 1)
noncomputable def lAny (l la : Nat) (D : LD) (fac : Int → Int32) (kind : Int) : Nat → Int → Bool
  | 0, _ => false
  | k + 1, i => lHold l la D fac kind i || lAny l la D fac kind k (i + 1)
theorem lWorth_bd {l la : Nat} {D : LD} {fac : Int → Int32} {kind no most : Int} (h : 0 ≤ no ∧ no ≤ most) : ∀ k i, 0 ≤ lWorth l la D fac kind no most k i ∧ lWorth l la D fac kind no most k i ≤ most
  | 0, _ => h
  | k + 1, i => by
    unfold lWorth
    split
    · unfold clampI; omega
    · exact lWorth_bd h k (i + 1)
theorem ldAt_fr {S : Nat → Nat → Bool} {l : Nat} {σ σ' : Sg} (F : Fr S σ σ') (hS : ∀ a k, DLaw l a k = true → S a k = false) : ldAt l σ' = ldAt l σ := by
  have e : ∀ a, (∀ k, DLaw l a k = true) → rd σ' a = rd σ a := fun a q => funext fun y => fr_rd F (hS a _ (q _))
  unfold ldAt
  rw [show rd σ' l 0 = rd σ l 0 from fr_rd F (hS _ _ (by simp [DLaw])), e (l + 1) (fun k => by simp [DLaw]), e (l + 2) (fun k => by simp [DLaw]), e (l + 3) (fun k => by simp [DLaw]), e (l + 4) (fun k => by simp [DLaw]), e (l + 5) (fun k => by simp [DLaw]), e (l + 6) (fun k => by simp [DLaw]), e 115 (fun k => by simp [DLaw])]
theorem SL_D {l : Nat} (hl : isL l) : ∀ a k, DLaw l a k = true → SL l a k = false := by
  have := hl.le
  intro a k; simp [DLaw, SL]; omega
theorem S120_D {l : Nat} (hl : isL l) : ∀ a k, DLaw l a k = true → S120 a k = false := by
  have := hl.le
  intro a k; simp [DLaw, S120]; omega
theorem cond_0 {v : Option Int32} (h : v = none ∨ v = some 0 ∨ v = some 1) : (v.getD (zI 0) = 0 ↔ ¬ v = some 1) ∧ (v.getD (zI 0) = 1 ↔ v = some 1) := by
  rcases h with rfl | rfl | rfl <;> decide
theorem mnmx {x : Int32} {most : Int} (h : 0 ≤ most ∧ most < 2147483648) : mxI 0 (mnI x (zI most)) = zI (clampI most (some x)) := by
  have h1 := x.le_toInt; have h2 := x.toInt_lt
  have : x = zI x.toInt := (zI_self x).symm
  unfold clampI
  show mxI 0 (mnI x (zI most)) = zI (max 0 (min x.toInt most))
  rw [this, mnI_zI (by omega) (by omega) (by omega) (by omega), zI_0, mxI_zI (by decide) (by decide) (by omega) (by omega), zI_toInt (by omega) (by omega)]
theorem lawAt {l : Nat} {σ : Sg} (h : ILaw l σ) {i : Int} (h0 : 0 ≤ i) (h1 : i < rd σ l 0) : 0 ≤ rd σ (l + 2) i ∧ rd σ (l + 2) i ≤ rd σ (l + 3) i ∧ rd σ (l + 3) i ≤ rd σ (l + 4) i ∧ rd σ (l + 4) i ≤ 240 ∧ i < 16 := by
  have := h.2.2.2 i h0 h1
  have := h.2.1
  omega
/-- what a condition comes to -/
theorem condN {l la : Nat} {σ : Sg} (hl : isL l) (hla : la = 91 ∨ la = 96) (h : ILaw l σ) {fac : Int → Int32} (hf : ∀ j : Int, 0 ≤ j → j < 8 → σ.1 la j.toNat = fac j) {i : Int} (h0 : 0 ≤ i) (h1 : i < rd σ l 0) {d : Nat} : ∃ σ' v, f_Law_run (d + 6) l (zI (rd σ (l + 3) i)) (zI (rd σ (l + 4) i)) la σ = rI v σ' ∧ Fr (SL l) σ σ' ∧ (v = 0 ↔ ¬ lv l la (rd σ (l + 5)) (rd σ (l + 6)) (rd σ 115) fac (rd σ (l + 3) i) (rd σ (l + 4) i) = some 1) := by
  obtain ⟨-, -, -, -, a0, a1, a2, a3, hC, -, f, hf2⟩ := h.2.2.2 i h0 h1
  obtain ⟨C, -, B⟩ := lv_sp hl hla (mc := rd σ 115) (fac := fac) hf2 (by omega) a3 fun j j0 j1 => hC j (by omega) j1
  obtain ⟨σ', e, F⟩ := run_sp hl hla rfl rfl hf (by omega) a3 C (d := d)
  exact ⟨σ', _, e, F, (cond_0 (B rfl)).1⟩
theorem valN {l la : Nat} {σ : Sg} (hl : isL l) (hla : la = 91 ∨ la = 96) (h : ILaw l σ) {fac : Int → Int32} (hf : ∀ j : Int, 0 ≤ j → j < 8 → σ.1 la j.toNat = fac j) {i : Int} (h0 : 0 ≤ i) (h1 : i < rd σ l 0) (hk : rd σ (l + 1) i ≠ 120) {d : Nat} : ∃ σ', f_Law_run (d + 6) l (zI (rd σ (l + 2) i)) (zI (rd σ (l + 3) i)) la σ = rI ((lv l la (rd σ (l + 5)) (rd σ (l + 6)) (rd σ 115) fac (rd σ (l + 2) i) (rd σ (l + 3) i)).getD (zI 0)) σ' ∧ Fr (SL l) σ σ' := by
  obtain ⟨-, -, -, -, a0, a1, a2, a3, hC, hw, -⟩ := h.2.2.2 i h0 h1
  obtain ⟨f, hf2⟩ := hw hk
  obtain ⟨C, -, -⟩ := lv_sp hl hla (mc := rd σ 115) (fac := fac) hf2 a0 (by omega) fun j j0 j1 => hC j (by omega) (by omega)
  exact run_sp hl hla rfl rfl hf a0 (by omega) C
theorem worthN_go {l la : Nat} (hl : isL l) (hla : la = 91 ∨ la = 96) {fac : Int → Int32} {kind no most : Int} (hm : 0 ≤ most ∧ most < 2147483648) (hk : kind ≠ 120 ∧ 0 ≤ kind ∧ kind < 1000) {d : Nat} : ∀ (k : Nat) (i : Int) (σ : Sg) (x6 : Value), ILaw l σ → (∀ j : Int, 0 ≤ j → j < 8 → σ.1 la j.toNat = fac j) → 0 ≤ i → i + k = rd σ l 0 → ∃ σ', f_Law_worth_3 (d + 6) l (zI kind) la (zI no) (zI most) (zI i) x6 σ = rI (zI (lWorth l la (ldAt l σ) fac kind no most k i)) σ' ∧ Fr (SL l) σ σ'
  | 0, i, σ, x6, h, hf, h0, hi => by
    refine ⟨σ, ?_, Fr.rf _ _⟩
    have hq := h.2.1
    have e0 : σ.1 l 0 = zI i := by rw [rd_k]; exact congrArg zI (by show rd σ l 0 = i; omega)
    rw [f_Law_worth_3_eq, gfI_of hl.s0, e0, if_neg Int32.lt_irrefl]
    rfl
  | k + 1, i, σ, x6, h, hf, h0, hi => by
    have hq := h.2.1
    have hin := lawAt h h0 (by omega)
    have hl' := hl.le
    have e0 : σ.1 l 0 = zI (rd σ l 0) := rd_k σ l 0
    have e1 : σ.1 (l + 1) i.toNat = zI (rd σ (l + 1) i) := by rw [rd_k, toNat_c h0]
    have e2 : σ.1 (l + 3) i.toNat = zI (rd σ (l + 3) i) := by rw [rd_k, toNat_c h0]
    have e3 : σ.1 (l + 4) i.toNat = zI (rd σ (l + 4) i) := by rw [rd_k, toNat_c h0]
    have b1 := rd_lo σ (l + 1) i; have b2 := rd_hi σ (l + 1) i
    have i1 : zI i + 1 = zI (i + 1) := by rw [zI_lit, zI_add]
    rw [f_Law_worth_3_eq, gfI_of hl.s0, e0, if_pos (by rw [zI_le (by omega) (by omega)]; omega), gfS_of hl.s0, ofs_2_1, ldi_of hl.s1 h0 (by omega) (by omega), e1]
    unfold lWorth
    by_cases hkd : rd σ (l + 1) i = kind
    · rw [if_pos (congrArg zI hkd), gfS_of hl.s0, ofs_2_3, ldi_of hl.s3 h0 (by omega) (by omega), e2, gfS_of hl.s0, ofs_2_4, ldi_of hl.s4 h0 (by omega) (by omega), e3, gdK_of hl.s0]
      obtain ⟨σ1, v, r1, F1, hv⟩ := condN hl hla h hf h0 (by omega) (d := d)
      have h' := h.fr F1 (SL_D hl)
      have hf' : ∀ j : Int, 0 ≤ j → j < 8 → σ1.1 la j.toNat = fac j := fun j j0 j8 => (F1.2 la _ (by simp [SL]; omega)).trans (hf j j0 j8)
      have hd := ldAt_fr F1 (SL_D hl)
      have hd0 : rd σ1 l 0 = rd σ l 0 := congrArg (·.1) hd
      rw [r1, cI_rI]
      by_cases hz : v = 0
      · rw [if_pos hz, i1]
        obtain ⟨σ2, r2, F2⟩ := worthN_go hl hla hm hk (d := d) k (i + 1) σ1 x6 h' hf' (by omega) (by omega)
        refine ⟨σ2, ?_, F1.tr F2⟩
        have hn : lHold l la (ldAt l σ) fac kind i = false := decide_eq_false fun z => hv.mp hz z.2
        rw [r2, hd, hn]; rfl
      · have hn : lHold l la (ldAt l σ) fac kind i = true := decide_eq_true ⟨hkd, Classical.byContradiction fun z => hz (hv.mpr z)⟩
        have z2 : rd σ1 (l + 2) = rd σ (l + 2) := congrArg (·.2.2.1) hd
        have z3 : rd σ1 (l + 3) = rd σ (l + 3) := congrArg (·.2.2.2.1) hd
        have z1 : rd σ1 (l + 1) = rd σ (l + 1) := congrArg (·.2.1) hd
        have z5 : rd σ1 (l + 5) = rd σ (l + 5) := congrArg (·.2.2.2.2.2.1) hd
        have z6 : rd σ1 (l + 6) = rd σ (l + 6) := congrArg (·.2.2.2.2.2.2.1) hd
        have z7 : rd σ1 115 = rd σ 115 := congrArg (·.2.2.2.2.2.2.2) hd
        have c1 : σ1.1 (l + 2) i.toNat = zI (rd σ (l + 2) i) := by rw [rd_k, toNat_c h0, z2]
        have c2 : σ1.1 (l + 3) i.toNat = zI (rd σ (l + 3) i) := by rw [rd_k, toNat_c h0, z3]
        obtain ⟨σ2, r2, F2⟩ := valN hl hla h' hf' h0 (by omega) (by rw [z1, hkd]; exact hk.1) (d := d)
        rw [z2, z3, z5, z6, z7] at r2
        rw [if_neg hz, gfS_of hl.s0, ofs_2_2, ldi_of hl.s2 h0 (by omega) (by omega), c1, gfS_of hl.s0, ofs_2_3, ldi_of hl.s3 h0 (by omega) (by omega), c2, gdK_of hl.s0, r2, cI_rI, mnmx hm, if_pos hn]
        exact ⟨σ2, rfl, F1.tr F2⟩
    · rw [if_neg (by rw [zI_eq (by omega) (by omega)]; exact hkd), i1]
      obtain ⟨σ2, r2, F2⟩ := worthN_go hl hla hm hk (d := d) k (i + 1) σ x6 h hf (by omega) (by omega)
      refine ⟨σ2, ?_, F2⟩
      have hn : lHold l la (ldAt l σ) fac kind i = false := decide_eq_false fun z => hkd z.1
      rw [r2, hn]; rfl
theorem worthN {l la : Nat} (hl : isL l) (hla : la = 91 ∨ la = 96) {fac : Int → Int32} {kind no most : Int} (hm : 0 ≤ most ∧ most < 2147483648) (hk : kind ≠ 120 ∧ 0 ≤ kind ∧ kind < 1000) {d : Nat} {σ : Sg} (h : ILaw l σ) (hf : ∀ j : Int, 0 ≤ j → j < 8 → σ.1 la j.toNat = fac j) : ∃ σ', f_Law_worth (d + 7) l (zI kind) la (zI no) (zI most) σ = rI (zI (lWorth l la (ldAt l σ) fac kind no most (rd σ l 0).toNat 0)) σ' ∧ Fr (SL l) σ σ' := by
  rw [f_Law_worth_eq, zI_0]
  exact worthN_go hl hla hm hk _ 0 σ .null h hf (by decide) (by have := h.1; omega)
theorem anyN_go {l la : Nat} (hl : isL l) (hla : la = 91 ∨ la = 96) {fac : Int → Int32} {kind : Int} (hk : 0 ≤ kind ∧ kind < 1000) {d : Nat} : ∀ (k : Nat) (i : Int) (σ : Sg), ILaw l σ → (∀ j : Int, 0 ≤ j → j < 8 → σ.1 la j.toNat = fac j) → 0 ≤ i → i + k = rd σ l 0 → ∃ σ', f_Law_anyHolds_2 (d + 6) l (zI kind) la (zI i) σ = rI (bz (lAny l la (ldAt l σ) fac kind k i)) σ' ∧ Fr (SL l) σ σ'
  | 0, i, σ, h, hf, h0, hi => by
    refine ⟨σ, ?_, Fr.rf _ _⟩
    have hq := h.2.1
    have e0 : σ.1 l 0 = zI i := by rw [rd_k]; exact congrArg zI (by show rd σ l 0 = i; omega)
    rw [f_Law_anyHolds_2_eq, gfI_of hl.s0, e0, if_neg Int32.lt_irrefl]
    rfl
  | k + 1, i, σ, h, hf, h0, hi => by
    have hq := h.2.1
    have hin := lawAt h h0 (by omega)
    have hl' := hl.le
    have e0 : σ.1 l 0 = zI (rd σ l 0) := rd_k σ l 0
    have e1 : σ.1 (l + 1) i.toNat = zI (rd σ (l + 1) i) := by rw [rd_k, toNat_c h0]
    have e2 : σ.1 (l + 3) i.toNat = zI (rd σ (l + 3) i) := by rw [rd_k, toNat_c h0]
    have e3 : σ.1 (l + 4) i.toNat = zI (rd σ (l + 4) i) := by rw [rd_k, toNat_c h0]
    have b1 := rd_lo σ (l + 1) i; have b2 := rd_hi σ (l + 1) i
    have i1 : zI i + 1 = zI (i + 1) := by rw [zI_lit, zI_add]
    rw [f_Law_anyHolds_2_eq, gfI_of hl.s0, e0, if_pos (by rw [zI_le (by omega) (by omega)]; omega), gfS_of hl.s0, ofs_2_1, ldi_of hl.s1 h0 (by omega) (by omega), e1]
    unfold lAny
    by_cases hkd : rd σ (l + 1) i = kind
    · rw [if_pos (congrArg zI hkd), gfS_of hl.s0, ofs_2_3, ldi_of hl.s3 h0 (by omega) (by omega), e2, gfS_of hl.s0, ofs_2_4, ldi_of hl.s4 h0 (by omega) (by omega), e3, gdK_of hl.s0]
      obtain ⟨σ1, v, r1, F1, hv⟩ := condN hl hla h hf h0 (by omega) (d := d)
      have h' := h.fr F1 (SL_D hl)
      have hf' : ∀ j : Int, 0 ≤ j → j < 8 → σ1.1 la j.toNat = fac j := fun j j0 j8 => (F1.2 la _ (by simp [SL]; omega)).trans (hf j j0 j8)
      have hd := ldAt_fr F1 (SL_D hl)
      have hd0 : rd σ1 l 0 = rd σ l 0 := congrArg (·.1) hd
      rw [r1, cI_rI]
      by_cases hz : v = 0
      · rw [if_pos hz, i1]
        obtain ⟨σ2, r2, F2⟩ := anyN_go hl hla hk (d := d) k (i + 1) σ1 h' hf' (by omega) (by omega)
        refine ⟨σ2, ?_, F1.tr F2⟩
        have hn : lHold l la (ldAt l σ) fac kind i = false := decide_eq_false fun z => hv.mp hz z.2
        rw [r2, hd, hn]; rfl
      · have hn : lHold l la (ldAt l σ) fac kind i = true := decide_eq_true ⟨hkd, Classical.byContradiction fun z => hz (hv.mpr z)⟩
        rw [if_neg hz, hn]
        exact ⟨σ1, rfl, F1⟩
    · rw [if_neg (by rw [zI_eq (by omega) (by omega)]; exact hkd), i1]
      obtain ⟨σ2, r2, F2⟩ := anyN_go hl hla hk (d := d) k (i + 1) σ h hf (by omega) (by omega)
      refine ⟨σ2, ?_, F2⟩
      have hn : lHold l la (ldAt l σ) fac kind i = false := decide_eq_false fun z => hkd z.1
      rw [r2, hn]; rfl
theorem anyN {l la : Nat} (hl : isL l) (hla : la = 91 ∨ la = 96) {fac : Int → Int32} {kind : Int} (hk : 0 ≤ kind ∧ kind < 1000) {d : Nat} {σ : Sg} (h : ILaw l σ) (hf : ∀ j : Int, 0 ≤ j → j < 8 → σ.1 la j.toNat = fac j) : ∃ σ', f_Law_anyHolds (d + 7) l (zI kind) la σ = rI (bz (lAny l la (ldAt l σ) fac kind (rd σ l 0).toNat 0)) σ' ∧ Fr (SL l) σ σ' := by
  rw [f_Law_anyHolds_eq, zI_0]
  exact anyN_go hl hla hk _ 0 σ h hf (by decide) (by have := h.1; omega)
/-! the reference's -/
theorem condM {l la : Nat} {σ : Sg} (hl : isL l) (hla : la = 91 ∨ la = 96) (h : ILaw l σ) {fac : Int → Int32} (hf : ∀ j : Int, 0 ≤ j → j < 8 → σ.1 121 j.toNat = fac j) {i : Int} (h0 : 0 ≤ i) (h1 : i < rd σ l 0) {d : Nat} : ∃ σ' v, f_M_reckonsTo (d + 2) (zI (rd σ (l + 3) i)) (zI (rd σ (l + 4) i)) σ = rI v σ' ∧ Fr S120 σ σ' ∧ (v = 1 ↔ lv l la (rd σ (l + 5)) (rd σ (l + 6)) (rd σ 115) fac (rd σ (l + 3) i) (rd σ (l + 4) i) = some 1) := by
  obtain ⟨-, -, -, -, a0, a1, a2, a3, hC, -, f, hf2⟩ := h.2.2.2 i h0 h1
  obtain ⟨-, C, B⟩ := lv_sp hl hla (mc := rd σ 115) (fac := fac) hf2 (by omega) a3 fun j j0 j1 => hC j (by omega) j1
  obtain ⟨σ', e, F⟩ := mrun_sp rfl hf (by omega) a2 a3 C (d := d)
  exact ⟨σ', _, e, F, (cond_0 (B rfl)).2⟩
theorem valM {l la : Nat} {σ : Sg} (hl : isL l) (hla : la = 91 ∨ la = 96) (h : ILaw l σ) {fac : Int → Int32} (hf : ∀ j : Int, 0 ≤ j → j < 8 → σ.1 121 j.toNat = fac j) {i : Int} (h0 : 0 ≤ i) (h1 : i < rd σ l 0) (hk : rd σ (l + 1) i ≠ 120) {d : Nat} : ∃ σ', f_M_reckonsTo (d + 2) (zI (rd σ (l + 2) i)) (zI (rd σ (l + 3) i)) σ = rI ((lv l la (rd σ (l + 5)) (rd σ (l + 6)) (rd σ 115) fac (rd σ (l + 2) i) (rd σ (l + 3) i)).getD (zI 0)) σ' ∧ Fr S120 σ σ' := by
  obtain ⟨-, -, -, -, a0, a1, a2, a3, hC, hw, -⟩ := h.2.2.2 i h0 h1
  obtain ⟨f, hf2⟩ := hw hk
  obtain ⟨-, C, -⟩ := lv_sp hl hla (mc := rd σ 115) (fac := fac) hf2 a0 (by omega) fun j j0 j1 => hC j (by omega) (by omega)
  exact mrun_sp rfl hf a0 a1 (by omega) C
theorem clampM {x : Int32} {most : Int} (h : 0 ≤ most ∧ most < 2147483648) (σ : Sg) : (if x < 0 then rI 0 σ else if zI most < x then rI (zI most) σ else rI x σ) = rI (zI (clampI most (some x))) σ := by
  have h1 := x.le_toInt; have h2 := x.toInt_lt
  have hx : x = zI x.toInt := (zI_self x).symm
  unfold clampI
  show _ = rI (zI (max 0 (min x.toInt most))) σ
  generalize x.toInt = y at hx h1 h2
  subst hx
  have e1 : (zI y < 0) = (y < 0) := by rw [zI_0]; exact zI_le (by omega) (by omega)
  have e2 : (zI most < zI y) = (most < y) := zI_le (by omega) (by omega)
  by_cases q1 : y < 0
  · rw [if_pos (e1.mpr q1), show max 0 (min y most) = 0 by omega]; rfl
  · rw [if_neg fun z => q1 (e1.mp z)]
    by_cases q2 : most < y
    · rw [if_pos (e2.mpr q2), show max 0 (min y most) = most by omega]
    · rw [if_neg fun z => q2 (e2.mp z), show max 0 (min y most) = y by omega]
theorem worthM_go {l la : Nat} (hl : isL l) (hla : la = 91 ∨ la = 96) {fac : Int → Int32} {kind no most : Int} (hm : 0 ≤ most ∧ most < 2147483648) (hk : kind ≠ 120 ∧ 0 ≤ kind ∧ kind < 1000) {d : Nat} : ∀ (k : Nat) (i : Int) (σ : Sg) (x6 : Value), ILaw l σ → (∀ j : Int, 0 ≤ j → j < 8 → σ.1 121 j.toNat = fac j) → 0 ≤ i → i + k = rd σ l 0 → ∃ σ', f_M_byLaw_3 (d + 2) (zI kind) (zI most) (zI no) (zI i) x6 σ = rI (zI (lWorth l la (ldAt l σ) fac kind no most k i)) σ' ∧ Fr S120 σ σ'
  | 0, i, σ, x6, h, hf, h0, hi => by
    refine ⟨σ, ?_, Fr.rf _ _⟩
    have hq := h.2.1; have hq2 := h.2.2.1
    have e0 : σ.1 102 16 = zI i := by rw [rd_k]; exact congrArg zI (by show rd σ 102 16 = i; omega)
    rw [f_M_byLaw_3_eq, e0, if_neg Int32.lt_irrefl]
    rfl
  | k + 1, i, σ, x6, h, hf, h0, hi => by
    have hq := h.2.1; have hq2 := h.2.2.1
    have hin := lawAt h h0 (by omega)
    have hl' := hl.le
    obtain ⟨g1, g2, g3, g4, -⟩ := h.2.2.2 i h0 (by omega)
    have e0 : σ.1 102 16 = zI (rd σ l 0) := by rw [rd_k]; exact congrArg zI hq2
    have e1 : σ.1 116 i.toNat = zI (rd σ (l + 1) i) := by rw [rd_k, toNat_c h0, g1]
    have e2 : σ.1 118 i.toNat = zI (rd σ (l + 3) i) := by rw [rd_k, toNat_c h0, g3]
    have e3 : σ.1 119 i.toNat = zI (rd σ (l + 4) i) := by rw [rd_k, toNat_c h0, g4]
    have b1 := rd_lo σ (l + 1) i; have b2 := rd_hi σ (l + 1) i
    have i1 : zI i + 1 = zI (i + 1) := by rw [zI_lit, zI_add]
    rw [f_M_byLaw_3_eq, e0, if_pos (by rw [zI_le (by omega) (by omega)]; omega), bnd_zI h0 (by omega) (by omega), ix_zI h0 (by omega), e1]
    unfold lWorth
    by_cases hkd : rd σ (l + 1) i = kind
    · rw [if_pos (congrArg zI hkd), bnd_zI h0 (by omega) (by omega), bnd_zI h0 (by omega) (by omega), e2, e3]
      obtain ⟨σ1, v, r1, F1, hv⟩ := condM hl hla h hf h0 (by omega) (d := d)
      have h' := h.fr F1 (S120_D hl)
      have hf' : ∀ j : Int, 0 ≤ j → j < 8 → σ1.1 121 j.toNat = fac j := fun j j0 j8 => (F1.2 121 _ rfl).trans (hf j j0 j8)
      have hd := ldAt_fr F1 (S120_D hl)
      have hd0 : rd σ1 l 0 = rd σ l 0 := congrArg (·.1) hd
      rw [r1, cI_rI]
      by_cases hz : v = 1
      · have hn : lHold l la (ldAt l σ) fac kind i = true := decide_eq_true ⟨hkd, hv.mp hz⟩
        have z2 : rd σ1 (l + 2) = rd σ (l + 2) := congrArg (·.2.2.1) hd
        have z3 : rd σ1 (l + 3) = rd σ (l + 3) := congrArg (·.2.2.2.1) hd
        have z1 : rd σ1 (l + 1) = rd σ (l + 1) := congrArg (·.2.1) hd
        have z5 : rd σ1 (l + 5) = rd σ (l + 5) := congrArg (·.2.2.2.2.2.1) hd
        have z6 : rd σ1 (l + 6) = rd σ (l + 6) := congrArg (·.2.2.2.2.2.2.1) hd
        have z7 : rd σ1 115 = rd σ 115 := congrArg (·.2.2.2.2.2.2.2) hd
        have c1 : σ1.1 117 i.toNat = zI (rd σ (l + 2) i) := by rw [F1.2 117 _ rfl, rd_k, toNat_c h0, g2]
        have c2 : σ1.1 118 i.toNat = zI (rd σ (l + 3) i) := by rw [F1.2 118 _ rfl, e2]
        obtain ⟨σ2, r2, F2⟩ := valM hl hla h' hf' h0 (by omega) (by rw [z1, hkd]; exact hk.1) (d := d)
        rw [z2, z3, z5, z6, z7] at r2
        rw [if_pos hz, bnd_zI h0 (by omega) (by omega), bnd_zI h0 (by omega) (by omega), c1, c2, r2, cI_rI, clampM hm, if_pos hn]
        exact ⟨σ2, rfl, F1.tr F2⟩
      · rw [if_neg hz, i1]
        obtain ⟨σ2, r2, F2⟩ := worthM_go hl hla hm hk (d := d) k (i + 1) σ1 x6 h' hf' (by omega) (by omega)
        refine ⟨σ2, ?_, F1.tr F2⟩
        have hn : lHold l la (ldAt l σ) fac kind i = false := decide_eq_false fun z => hz (hv.mpr z.2)
        rw [r2, hd, hn]; rfl
    · rw [if_neg (by rw [zI_eq (by omega) (by omega)]; exact hkd), i1]
      obtain ⟨σ2, r2, F2⟩ := worthM_go hl hla hm hk (d := d) k (i + 1) σ x6 h hf (by omega) (by omega)
      refine ⟨σ2, ?_, F2⟩
      have hn : lHold l la (ldAt l σ) fac kind i = false := decide_eq_false fun z => hkd z.1
      rw [r2, hn]; rfl
theorem worthM {l la : Nat} (hl : isL l) (hla : la = 91 ∨ la = 96) {fac : Int → Int32} {kind no most : Int} (hm : 0 ≤ most ∧ most < 2147483648) (hk : kind ≠ 120 ∧ 0 ≤ kind ∧ kind < 1000) {d : Nat} {σ : Sg} (h : ILaw l σ) (hf : ∀ j : Int, 0 ≤ j → j < 8 → σ.1 121 j.toNat = fac j) : ∃ σ', f_M_byLaw (d + 3) (zI kind) (zI most) (zI no) σ = rI (zI (lWorth l la (ldAt l σ) fac kind no most (rd σ l 0).toNat 0)) σ' ∧ Fr S120 σ σ' := by
  rw [f_M_byLaw_eq, zI_0]
  exact worthM_go hl hla hm hk _ 0 σ .null h hf (by decide) (by have := h.1; omega)
theorem anyM_go {l la : Nat} (hl : isL l) (hla : la = 91 ∨ la = 96) {fac : Int → Int32} {kind : Int} (hk : 0 ≤ kind ∧ kind < 1000) {d : Nat} : ∀ (k : Nat) (i : Int) (σ : Sg), ILaw l σ → (∀ j : Int, 0 ≤ j → j < 8 → σ.1 121 j.toNat = fac j) → 0 ≤ i → i + k = rd σ l 0 → ∃ σ', f_M_holdsAny_2 (d + 2) (zI kind) (zI i) σ = rI (bz (lAny l la (ldAt l σ) fac kind k i)) σ' ∧ Fr S120 σ σ'
  | 0, i, σ, h, hf, h0, hi => by
    refine ⟨σ, ?_, Fr.rf _ _⟩
    have hq := h.2.1; have hq2 := h.2.2.1
    have e0 : σ.1 102 16 = zI i := by rw [rd_k]; exact congrArg zI (by show rd σ 102 16 = i; omega)
    rw [f_M_holdsAny_2_eq, e0, if_neg Int32.lt_irrefl]
    rfl
  | k + 1, i, σ, h, hf, h0, hi => by
    have hq := h.2.1; have hq2 := h.2.2.1
    have hin := lawAt h h0 (by omega)
    have hl' := hl.le
    obtain ⟨g1, g2, g3, g4, -⟩ := h.2.2.2 i h0 (by omega)
    have e0 : σ.1 102 16 = zI (rd σ l 0) := by rw [rd_k]; exact congrArg zI hq2
    have e1 : σ.1 116 i.toNat = zI (rd σ (l + 1) i) := by rw [rd_k, toNat_c h0, g1]
    have e2 : σ.1 118 i.toNat = zI (rd σ (l + 3) i) := by rw [rd_k, toNat_c h0, g3]
    have e3 : σ.1 119 i.toNat = zI (rd σ (l + 4) i) := by rw [rd_k, toNat_c h0, g4]
    have b1 := rd_lo σ (l + 1) i; have b2 := rd_hi σ (l + 1) i
    have i1 : zI i + 1 = zI (i + 1) := by rw [zI_lit, zI_add]
    rw [f_M_holdsAny_2_eq, e0, if_pos (by rw [zI_le (by omega) (by omega)]; omega), bnd_zI h0 (by omega) (by omega), ix_zI h0 (by omega), e1]
    unfold lAny
    by_cases hkd : rd σ (l + 1) i = kind
    · rw [if_pos (congrArg zI hkd), bnd_zI h0 (by omega) (by omega), bnd_zI h0 (by omega) (by omega), e2, e3]
      obtain ⟨σ1, v, r1, F1, hv⟩ := condM hl hla h hf h0 (by omega) (d := d)
      have h' := h.fr F1 (S120_D hl)
      have hf' : ∀ j : Int, 0 ≤ j → j < 8 → σ1.1 121 j.toNat = fac j := fun j j0 j8 => (F1.2 121 _ rfl).trans (hf j j0 j8)
      have hd := ldAt_fr F1 (S120_D hl)
      have hd0 : rd σ1 l 0 = rd σ l 0 := congrArg (·.1) hd
      rw [r1, cI_rI]
      by_cases hz : v = 1
      · have hn : lHold l la (ldAt l σ) fac kind i = true := decide_eq_true ⟨hkd, hv.mp hz⟩
        rw [if_pos hz, hn]
        exact ⟨σ1, rfl, F1⟩
      · rw [if_neg hz, i1]
        obtain ⟨σ2, r2, F2⟩ := anyM_go hl hla hk (d := d) k (i + 1) σ1 h' hf' (by omega) (by omega)
        refine ⟨σ2, ?_, F1.tr F2⟩
        have hn : lHold l la (ldAt l σ) fac kind i = false := decide_eq_false fun z => hz (hv.mpr z.2)
        rw [r2, hd, hn]; rfl
    · rw [if_neg (by rw [zI_eq (by omega) (by omega)]; exact hkd), i1]
      obtain ⟨σ2, r2, F2⟩ := anyM_go hl hla hk (d := d) k (i + 1) σ h hf (by omega) (by omega)
      refine ⟨σ2, ?_, F2⟩
      have hn : lHold l la (ldAt l σ) fac kind i = false := decide_eq_false fun z => hkd z.1
      rw [r2, hn]; rfl
theorem anyM {l la : Nat} (hl : isL l) (hla : la = 91 ∨ la = 96) {fac : Int → Int32} {kind : Int} (hk : 0 ≤ kind ∧ kind < 1000) {d : Nat} {σ : Sg} (h : ILaw l σ) (hf : ∀ j : Int, 0 ≤ j → j < 8 → σ.1 121 j.toNat = fac j) : ∃ σ', f_M_holdsAny (d + 3) (zI kind) σ = rI (bz (lAny l la (ldAt l σ) fac kind (rd σ l 0).toNat 0)) σ' ∧ Fr S120 σ σ' := by
  rw [f_M_holdsAny_eq, zI_0]
  exact anyM_go hl hla hk _ 0 σ h hf (by decide) (by have := h.1; omega)
