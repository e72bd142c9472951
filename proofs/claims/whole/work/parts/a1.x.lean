/-! a roll: who is what to whom is laid down -/
noncomputable def cSib (d P : Nat) (x1 x2 : Int32) (σ : Sg) : Rs := if x2 = x1 then (f_Roll_relateAll_89 d P x1 (x2 + 1) σ) else (gfS 4 P 3 fun v7 => ldI v7 x1 σ fun v8 => gfS 4 P 3 fun v9 => ldI v9 x2 σ fun v10 => cI (f_Roll_isSame d v8 v10 σ) fun v12 σ11 => if v12 = 0 then (gfS 4 P 4 fun v13 => ldI v13 x1 σ11 fun v14 => gfS 4 P 4 fun v15 => ldI v15 x2 σ11 fun v16 => cI (f_Roll_isSame d v14 v16 σ11) fun v18 σ17 => if v18 = 0 then (f_Roll_relateAll_89 d P x1 (x2 + 1) σ17) else (gfS 4 P 7 fun v19 => ldI v19 x1 σ17 fun v20 => stI v19 x1 (v20 ||| (1 <<< (x2 &&& 31))) σ17 fun σ21 => f_Roll_relateAll_89 d P x1 (x2 + 1) σ21)) else (gfS 4 P 7 fun v22 => ldI v22 x1 σ11 fun v23 => stI v22 x1 (v23 ||| (1 <<< (x2 &&& 31))) σ11 fun σ24 => f_Roll_relateAll_89 d P x1 (x2 + 1) σ24))
theorem c89_eq (d P : Nat) (x1 x2 : Int32) (σ : Sg) : f_Roll_relateAll_89 d P x1 x2 σ = gfI 4 P 0 σ fun v1 => if x2 < v1 then (gfS 4 P 3 fun v2 => ldI v2 x2 σ fun v3 => if v3 = x1 then (gfS 4 P 6 fun v4 => ldI v4 x1 σ fun v5 => stI v4 x1 (v5 ||| (1 <<< (x2 &&& 31))) σ fun σ6 => cSib d P x1 x2 σ6) else (gfS 4 P 4 fun v25 => ldI v25 x2 σ fun v26 => if v26 = x1 then (gfS 4 P 6 fun v27 => ldI v27 x1 σ fun v28 => stI v27 x1 (v28 ||| (1 <<< (x2 &&& 31))) σ fun σ29 => cSib d P x1 x2 σ29) else cSib d P x1 x2 σ)) else (f_Roll_relateAll_12 d P (x1 + 1) (.int x2) σ) := f_Roll_relateAll_89_eq d P x1 x2 σ
noncomputable def cRow (d P : Nat) (x1 : Int32) (σ : Sg) : Rs := gfS 4 P 6 fun v12 => stI v12 x1 0 σ fun σ13 => gfS 4 P 7 fun v14 => stI v14 x1 0 σ13 fun σ15 => f_Roll_relateAll_89 d P x1 0 σ15
noncomputable def cMen (d P : Nat) (x1 w : Int32) (σ : Sg) : Rs := pfI 4 P 8 w σ fun σ5 => gfI 4 P 9 σ5 fun v6 => gfS 4 P 5 fun v7 => ldI v7 x1 σ5 fun v8 => cI (f_Roll_bit d v8 σ5) fun v10 σ9 => if v10 = 0 then (pfI 4 P 9 (v6 ||| 0) σ9 fun σ11 => cRow d P x1 σ11) else (pfI 4 P 9 (v6 ||| (1 <<< (x1 &&& 31))) σ9 fun σ16 => cRow d P x1 σ16)
theorem c12_eq (d P : Nat) (x1 : Int32) (x2 : Value) (σ : Sg) : f_Roll_relateAll_12 d P x1 x2 σ = gfI 4 P 0 σ fun v1 => if x1 < v1 then (gfI 4 P 8 σ fun v2 => gfS 4 P 1 fun v3 => ldI v3 x1 σ fun v4 => if v4 = 0 then cMen d P x1 (v2 ||| (1 <<< (x1 &&& 31))) σ else cMen d P x1 (v2 ||| 0) σ) else (rV σ) := f_Roll_relateAll_12_eq d P x1 x2 σ
theorem isSame_sp {a b : Int} (ha : -1 ≤ a ∧ a < 24) (hb : -1 ≤ b ∧ b < 24) {d : Nat} {σ : Sg} : f_Roll_isSame (d + 1) (zI a) (zI b) σ = rI (bz (decide (a ≠ -1 ∧ a = b))) σ := by
  rw [f_Roll_isSame_eq, show (-1 : Int32) = zI (-1) from rfl, ifEq (by omega) (by decide)]
  by_cases q : a = -1
  · rw [if_pos q, decide_eq_false (by omega)]; rfl
  · rw [if_neg q, ifEq (by omega) (by omega)]
    by_cases q2 : a = b
    · rw [if_pos q2, decide_eq_true ⟨q, q2⟩]; rfl
    · rw [if_neg q2, decide_eq_false (by omega)]; rfl
def SibP (F G : Int → Int) (x y : Int) : Prop := y ≠ x ∧ (F x ≠ -1 ∧ F x = F y ∨ G x ≠ -1 ∧ G x = G y)
theorem cSib_sp {P : Nat} (hP : isP P) {m x q : Int} (m24 : m ≤ 24) (x0 : 0 ≤ x) (x1 : x < m) (q0 : 0 ≤ q) (q1 : q < m) {F G : Int → Int} (bF : ∀ y, 0 ≤ y → y < m → -1 ≤ F y ∧ F y < 24) (bG : ∀ y, 0 ≤ y → y < m → -1 ≤ G y ∧ G y < 24) {σ : Sg} (hF : isRow (P + 3) m F σ) (hG : isRow (P + 4) m G σ) {d : Nat} : (SibP F G x q → cSib (d + 1) P (zI x) (zI q) σ = f_Roll_relateAll_89 (d + 1) P (zI x) (zI (q + 1)) (sI σ (P + 7) x.toNat (σ.1 (P + 7) x.toNat ||| (zI 1 <<< (zI q &&& zI 31))))) ∧ (¬ SibP F G x q → cSib (d + 1) P (zI x) (zI q) σ = f_Roll_relateAll_89 (d + 1) P (zI x) (zI (q + 1)) σ) := by
  have nx : zI q + 1 = zI (q + 1) := by rw [show (1 : Int32) = zI 1 from zI_lit 1, zI_add]
  have l1 : (1 : Int32) = zI 1 := zI_lit 1
  have l31 : (31 : Int32) = zI 31 := zI_lit 31
  have st : cSib (d + 1) P (zI x) (zI q) σ = if q = x then f_Roll_relateAll_89 (d + 1) P (zI x) (zI (q + 1)) σ else if F x ≠ -1 ∧ F x = F q then f_Roll_relateAll_89 (d + 1) P (zI x) (zI (q + 1)) (sI σ (P + 7) x.toNat (σ.1 (P + 7) x.toNat ||| (zI 1 <<< (zI q &&& zI 31)))) else if G x ≠ -1 ∧ G x = G q then f_Roll_relateAll_89 (d + 1) P (zI x) (zI (q + 1)) (sI σ (P + 7) x.toNat (σ.1 (P + 7) x.toNat ||| (zI 1 <<< (zI q &&& zI 31)))) else f_Roll_relateAll_89 (d + 1) P (zI x) (zI (q + 1)) σ := by
    unfold cSib
    rw [nx, ifEq (by omega) (by omega)]
    by_cases z : q = x
    · rw [if_pos z, if_pos z]
    · rw [if_neg z, if_neg z, gfS_of hP.s0, ofs_4_3, ldi_of hP.s3 x0 (by omega) (by omega), hF x x0 x1, gfS_of hP.s0, ofs_4_3, ldi_of hP.s3 q0 (by omega) (by omega), hF q q0 q1, isSame_sp (bF x x0 x1) (bF q q0 q1), cI_rI, ifBz]
      by_cases z2 : F x ≠ -1 ∧ F x = F q
      · rw [if_pos z2, if_pos z2, gfS_of hP.s0, ofs_4_7, ldi_of hP.s7 x0 (by omega) (by omega), stI_of hP.s7 x0 (by omega) (by omega), l1, l31]
      · rw [if_neg z2, if_neg z2, gfS_of hP.s0, ofs_4_4, ldi_of hP.s4 x0 (by omega) (by omega), hG x x0 x1, gfS_of hP.s0, ofs_4_4, ldi_of hP.s4 q0 (by omega) (by omega), hG q q0 q1, isSame_sp (bG x x0 x1) (bG q q0 q1), cI_rI, ifBz]
        by_cases z3 : G x ≠ -1 ∧ G x = G q
        · rw [if_pos z3, if_pos z3, gfS_of hP.s0, ofs_4_7, ldi_of hP.s7 x0 (by omega) (by omega), stI_of hP.s7 x0 (by omega) (by omega), l1, l31]
        · rw [if_neg z3, if_neg z3]
  refine ⟨fun ⟨h1, h2⟩ => ?_, fun h => ?_⟩
  · rw [st, if_neg h1]
    by_cases z2 : F x ≠ -1 ∧ F x = F q
    · rw [if_pos z2]
    · rw [if_neg z2, if_pos (h2.resolve_left z2)]
  · rw [st]
    by_cases z : q = x
    · rw [if_pos z]
    · rw [if_neg z, if_neg (fun z2 => h ⟨z, Or.inl z2⟩), if_neg (fun z2 => h ⟨z, Or.inr z2⟩)]
theorem gb_step {s t : Int32} {q y : Int} {A : Int → Prop} (q0 : 0 ≤ q) (q31 : q < 32) (y0 : 0 ≤ y) (y1 : y < 32) (hs : gb s y = true ↔ y < q ∧ A y) (ht : A q ∧ t = s ||| (zI 1 <<< (zI q &&& zI 31)) ∨ ¬ A q ∧ t = s) : gb t y = true ↔ y < q + 1 ∧ A y := by
  rcases ht with ⟨a, rfl⟩ | ⟨a, rfl⟩
  · rw [gb_or, gb_sh q0 q31 y0 y1, Bool.or_eq_true, hs, decide_eq_true_eq]
    refine ⟨fun z => ?_, fun z => ?_⟩
    · rcases z with z | z
      · exact ⟨by omega, z.2⟩
      · subst z; exact ⟨by omega, a⟩
    · by_cases e : y = q
      · exact Or.inr e
      · exact Or.inl ⟨by omega, z.2⟩
  · rw [hs]
    refine ⟨fun z => ⟨by omega, z.2⟩, fun z => ⟨?_, z.2⟩⟩
    by_cases e : y = q
    · subst e; exact absurd z.2 a
    · omega
def S67 (P j a k : Nat) : Bool := (a == P + 6 || a == P + 7) && k == j
theorem rel89 {P : Nat} (hP : isP P) {m x : Int} (m24 : m ≤ 24) (x0 : 0 ≤ x) (x1 : x < m) {F G : Int → Int} (bF : ∀ y, 0 ≤ y → y < m → -1 ≤ F y ∧ F y < 24) (bG : ∀ y, 0 ≤ y → y < m → -1 ≤ G y ∧ G y < 24) {d : Nat} : ∀ (b : Nat) (q : Int) (σ : Sg), q + b = m → 0 ≤ q → σ.1 P 0 = zI m → isRow (P + 3) m F σ → isRow (P + 4) m G σ → (∀ y, 0 ≤ y → y < 32 → (gb (σ.1 (P + 6) x.toNat) y = true ↔ y < q ∧ (F y = x ∨ G y = x))) → (∀ y, 0 ≤ y → y < 32 → (gb (σ.1 (P + 7) x.toNat) y = true ↔ y < q ∧ SibP F G x y)) → ∃ σ', f_Roll_relateAll_89 (d + 1) P (zI x) (zI q) σ = f_Roll_relateAll_12 (d + 1) P (zI (x + 1)) (.int (zI m)) σ' ∧ Fr (S67 P x.toNat) σ σ' ∧ (∀ y, 0 ≤ y → y < 32 → (gb (σ'.1 (P + 6) x.toNat) y = true ↔ y < m ∧ (F y = x ∨ G y = x))) ∧ (∀ y, 0 ≤ y → y < 32 → (gb (σ'.1 (P + 7) x.toNat) y = true ↔ y < m ∧ SibP F G x y)) := by
  intro b
  induction b with
  | zero =>
    intro q σ hq q0 e hF hG h6 h7
    have : q = m := by omega
    subst this
    refine ⟨σ, ?_, Fr.rf _ _, h6, h7⟩
    rw [c89_eq, gfI_of hP.s0, e, if_neg Int32.lt_irrefl, show (1 : Int32) = zI 1 from zI_lit 1, zI_add]
  | succ b ih =>
    intro q σ hq q0 e hF hG h6 h7
    have q1 : q < m := by omega
    have l1 : (1 : Int32) = zI 1 := zI_lit 1
    have l31 : (31 : Int32) = zI 31 := zI_lit 31
    have bf := bF q q0 q1
    have bg := bG q q0 q1
    -- the child
    obtain ⟨σ1, s1, K1, k6⟩ : ∃ σ1, f_Roll_relateAll_89 (d + 1) P (zI x) (zI q) σ = cSib (d + 1) P (zI x) (zI q) σ1 ∧ Fr (fun a k => a == P + 6 && k == x.toNat) σ σ1 ∧ ((F q = x ∨ G q = x) ∧ σ1.1 (P + 6) x.toNat = σ.1 (P + 6) x.toNat ||| (zI 1 <<< (zI q &&& zI 31)) ∨ ¬ (F q = x ∨ G q = x) ∧ σ1.1 (P + 6) x.toNat = σ.1 (P + 6) x.toNat) := by
      have st : f_Roll_relateAll_89 (d + 1) P (zI x) (zI q) σ = if F q = x then cSib (d + 1) P (zI x) (zI q) (sI σ (P + 6) x.toNat (σ.1 (P + 6) x.toNat ||| (zI 1 <<< (zI q &&& zI 31)))) else if G q = x then cSib (d + 1) P (zI x) (zI q) (sI σ (P + 6) x.toNat (σ.1 (P + 6) x.toNat ||| (zI 1 <<< (zI q &&& zI 31)))) else cSib (d + 1) P (zI x) (zI q) σ := by
        rw [c89_eq, gfI_of hP.s0, e, ifLe (by omega) (by omega), if_pos q1, gfS_of hP.s0, ofs_4_3, ldi_of hP.s3 q0 (by omega) (by omega), hF q q0 q1, ifEq (by omega) (by omega)]
        by_cases z : F q = x
        · rw [if_pos z, if_pos z, gfS_of hP.s0, ofs_4_6, ldi_of hP.s6 x0 (by omega) (by omega), stI_of hP.s6 x0 (by omega) (by omega), l1, l31]
        · rw [if_neg z, if_neg z, gfS_of hP.s0, ofs_4_4, ldi_of hP.s4 q0 (by omega) (by omega), hG q q0 q1, ifEq (by omega) (by omega)]
          by_cases z2 : G q = x
          · rw [if_pos z2, if_pos z2, gfS_of hP.s0, ofs_4_6, ldi_of hP.s6 x0 (by omega) (by omega), stI_of hP.s6 x0 (by omega) (by omega), l1, l31]
          · rw [if_neg z2, if_neg z2]
      by_cases z : F q = x
      · exact ⟨_, by rw [st, if_pos z], (Fr.rf _ σ).sI _ (by simp), Or.inl ⟨Or.inl z, sI_same _ _ _ _⟩⟩
      · by_cases z2 : G q = x
        · exact ⟨_, by rw [st, if_neg z, if_pos z2], (Fr.rf _ σ).sI _ (by simp), Or.inl ⟨Or.inr z2, sI_same _ _ _ _⟩⟩
        · exact ⟨σ, by rw [st, if_neg z, if_neg z2], Fr.rf _ _, Or.inr ⟨fun w => w.elim z z2, rfl⟩⟩
    have hF1 : isRow (P + 3) m F σ1 := fun y y0 y1 => (K1.2 _ _ (by simp)).trans (hF y y0 y1)
    have hG1 : isRow (P + 4) m G σ1 := fun y y0 y1 => (K1.2 _ _ (by simp)).trans (hG y y0 y1)
    obtain ⟨p1, p2⟩ := cSib_sp hP m24 x0 x1 q0 q1 bF bG hF1 hG1 (d := d)
    obtain ⟨σ2, s2, K2, k7⟩ : ∃ σ2, cSib (d + 1) P (zI x) (zI q) σ1 = f_Roll_relateAll_89 (d + 1) P (zI x) (zI (q + 1)) σ2 ∧ Fr (fun a k => a == P + 7 && k == x.toNat) σ1 σ2 ∧ (SibP F G x q ∧ σ2.1 (P + 7) x.toNat = σ1.1 (P + 7) x.toNat ||| (zI 1 <<< (zI q &&& zI 31)) ∨ ¬ SibP F G x q ∧ σ2.1 (P + 7) x.toNat = σ1.1 (P + 7) x.toNat) := by
      by_cases z : SibP F G x q
      · exact ⟨_, p1 z, (Fr.rf _ σ1).sI _ (by simp), Or.inl ⟨z, sI_same _ _ _ _⟩⟩
      · exact ⟨σ1, p2 z, Fr.rf _ _, Or.inr ⟨z, rfl⟩⟩
    have w6 : σ2.1 (P + 6) x.toNat = σ1.1 (P + 6) x.toNat := K2.2 _ _ (by simp)
    have w7 : σ1.1 (P + 7) x.toNat = σ.1 (P + 7) x.toNat := K1.2 _ _ (by simp)
    rw [← w6] at k6
    rw [w7] at k7
    obtain ⟨σ', a1, a2, a3, a4⟩ := ih (q + 1) σ2 (by omega) (by omega) ((K2.2 _ _ (by simp)).trans ((K1.2 _ _ (by simp)).trans e)) (fun y y0 y1 => (K2.2 _ _ (by simp)).trans (hF1 y y0 y1)) (fun y y0 y1 => (K2.2 _ _ (by simp)).trans (hG1 y y0 y1)) (fun y y0 y1 => gb_step (A := fun y => F y = x ∨ G y = x) q0 (by omega) y0 y1 (h6 y y0 y1) k6) (fun y y0 y1 => gb_step (A := SibP F G x) q0 (by omega) y0 y1 (h7 y y0 y1) k7)
    refine ⟨σ', s1.trans (s2.trans a1), ?_, a3, a4⟩
    refine FrU K1 (FrU K2 a2 (U := S67 P x.toNat) fun a k z => ⟨?_, z⟩) fun a k z => ⟨?_, z⟩
    · simp only [S67, Bool.and_eq_false_iff, Bool.or_eq_false_iff] at z ⊢
      rcases z with z | z
      · exact Or.inl z.2
      · exact Or.inr z
    · simp only [S67, Bool.and_eq_false_iff, Bool.or_eq_false_iff] at z ⊢
      rcases z with z | z
      · exact Or.inl z.1
      · exact Or.inr z
def SRel (P a k : Nat) : Bool := a == P + 6 || a == P + 7 || (a == P && (k == 8 || k == 9))
theorem relate_sp {P : Nat} (hP : isP P) {m : Int} (m0 : 0 ≤ m) (m24 : m ≤ 24) {S F G D : Int → Int} (bS : ∀ y, 0 ≤ y → y < m → S y = 0 ∨ S y = 1) (bF : ∀ y, 0 ≤ y → y < m → -1 ≤ F y ∧ F y < 24) (bG : ∀ y, 0 ≤ y → y < m → -1 ≤ G y ∧ G y < 24) (bD : ∀ y, 0 ≤ y → y < m → -1 ≤ D y ∧ D y < 24) {σ : Sg} (e : σ.1 P 0 = zI m) (hS : isRow (P + 1) m S σ) (hF : isRow (P + 3) m F σ) (hG : isRow (P + 4) m G σ) (hD : isRow (P + 5) m D σ) {d : Nat} : ∃ σ', f_Roll_relateAll (d + 2) P σ = rV σ' ∧ Fr (SRel P) σ σ' ∧ (∀ y, 0 ≤ y → y < 32 → (gb (σ'.1 P 8) y = true ↔ y < m ∧ S y = 0) ∧ (gb (σ'.1 P 9) y = true ↔ y < m ∧ D y ≠ -1)) ∧ ∀ x, 0 ≤ x → x < m → (∀ y, 0 ≤ y → y < 32 → (gb (σ'.1 (P + 6) x.toNat) y = true ↔ y < m ∧ (F y = x ∨ G y = x)) ∧ (gb (σ'.1 (P + 7) x.toNat) y = true ↔ y < m ∧ SibP F G x y)) := by
  have l1 : (1 : Int32) = zI 1 := zI_lit 1
  have l31 : (31 : Int32) = zI 31 := zI_lit 31
  have main : ∀ (b : Nat) (x : Int) (τ : Sg) (v : Value), x + b = m → 0 ≤ x → Fr (SRel P) σ τ → (∀ y, 0 ≤ y → y < 32 → (gb (τ.1 P 8) y = true ↔ y < x ∧ S y = 0) ∧ (gb (τ.1 P 9) y = true ↔ y < x ∧ D y ≠ -1)) → (∀ z, 0 ≤ z → z < x → (∀ y, 0 ≤ y → y < 32 → (gb (τ.1 (P + 6) z.toNat) y = true ↔ y < m ∧ (F y = z ∨ G y = z)) ∧ (gb (τ.1 (P + 7) z.toNat) y = true ↔ y < m ∧ SibP F G z y))) → ∃ σ', f_Roll_relateAll_12 (d + 1) P (zI x) v τ = rV σ' ∧ Fr (SRel P) σ σ' ∧ (∀ y, 0 ≤ y → y < 32 → (gb (σ'.1 P 8) y = true ↔ y < m ∧ S y = 0) ∧ (gb (σ'.1 P 9) y = true ↔ y < m ∧ D y ≠ -1)) ∧ ∀ x, 0 ≤ x → x < m → (∀ y, 0 ≤ y → y < 32 → (gb (σ'.1 (P + 6) x.toNat) y = true ↔ y < m ∧ (F y = x ∨ G y = x)) ∧ (gb (σ'.1 (P + 7) x.toNat) y = true ↔ y < m ∧ SibP F G x y)) := by
    intro b
    induction b with
    | zero =>
      intro x τ v hx x0 K h1 h2
      have : x = m := by omega
      subst this
      refine ⟨τ, ?_, K, h1, h2⟩
      rw [c12_eq, gfI_of hP.s0, K.2 P 0 (by simp [SRel]), e, if_neg Int32.lt_irrefl]
    | succ b ih =>
      intro x τ v hx x0 K h1 h2
      have x1 : x < m := by omega
      have bs := bS x x0 x1
      have bd := bD x x0 x1
      have eτ : τ.1 P 0 = zI m := (K.2 P 0 (by simp [SRel])).trans e
      obtain ⟨w, s1, k8⟩ : ∃ w, f_Roll_relateAll_12 (d + 1) P (zI x) v τ = cMen (d + 1) P (zI x) w τ ∧ (S x = 0 ∧ w = τ.1 P 8 ||| (zI 1 <<< (zI x &&& zI 31)) ∨ ¬ S x = 0 ∧ w = τ.1 P 8) := by
        have st : f_Roll_relateAll_12 (d + 1) P (zI x) v τ = if S x = 0 then cMen (d + 1) P (zI x) (τ.1 P 8 ||| (zI 1 <<< (zI x &&& zI 31))) τ else cMen (d + 1) P (zI x) (τ.1 P 8 ||| zI 0) τ := by
          rw [c12_eq, gfI_of hP.s0, eτ, ifLe (by omega) (by omega), if_pos x1, gfI_of hP.s0, gfS_of hP.s0, ofs_4_1, ldi_of hP.s1 x0 (by omega) (by omega), (K.2 (P + 1) _ (by simp [SRel])).trans (hS x x0 x1), zI_0, ifEq (by omega) (by decide), l1, l31]
        by_cases z : S x = 0
        · exact ⟨_, by rw [st, if_pos z], Or.inl ⟨z, rfl⟩⟩
        · refine ⟨τ.1 P 8, ?_, Or.inr ⟨z, rfl⟩⟩
          rw [st, if_neg z]
          exact congrArg (fun w => cMen (d + 1) P (zI x) w τ) (gb_ext fun k _ _ => by rw [gb_or, gb_0, Bool.or_false])
      obtain ⟨w2, s2, k9⟩ : ∃ w2, cMen (d + 1) P (zI x) w τ = cRow (d + 1) P (zI x) (sI (sI τ P 8 w) P 9 w2) ∧ (D x ≠ -1 ∧ w2 = τ.1 P 9 ||| (zI 1 <<< (zI x &&& zI 31)) ∨ ¬ D x ≠ -1 ∧ w2 = τ.1 P 9) := by
        have st : cMen (d + 1) P (zI x) w τ = if D x < 0 then cRow (d + 1) P (zI x) (sI (sI τ P 8 w) P 9 (τ.1 P 9 ||| zI 0)) else cRow (d + 1) P (zI x) (sI (sI τ P 8 w) P 9 (τ.1 P 9 ||| (zI 1 <<< (zI x &&& zI 31)))) := by
          unfold cMen
          rw [pfI_of hP.s0, gfI_of hP.s0, sI_slot _ _ _ _ (by decide), gfS_of hP.s0, ofs_4_5, ldi_of hP.s5 x0 (by omega) (by omega), sI_row _ _ _ _ _ (by omega), (K.2 (P + 5) _ (by simp [SRel])).trans (hD x x0 x1), f_Roll_bit_eq, zI_0, ifLe (by omega) (by decide)]
          by_cases z : D x < 0
          · rw [if_pos z, if_pos z, cI_rI, ← zI_0, if_pos rfl, pfI_of hP.s0]
          · rw [if_neg z, if_neg z, cI_rI, l1, l31, if_neg, pfI_of hP.s0]
            intro y
            have := gb_sh (p := D x) (k := D x) (by omega) (by omega) (by omega) (by omega)
            rw [y, gb_0] at this
            simp at this
        by_cases z : D x < 0
        · refine ⟨τ.1 P 9, ?_, Or.inr ⟨by omega, rfl⟩⟩
          rw [st, if_pos z]
          exact congrArg (fun w2 => cRow (d + 1) P (zI x) (sI (sI τ P 8 w) P 9 w2)) (gb_ext fun k _ _ => by rw [gb_or, gb_0, Bool.or_false])
        · exact ⟨_, by rw [st, if_neg z], Or.inl ⟨by omega, rfl⟩⟩
      generalize hρ : sI (sI (sI (sI τ P 8 w) P 9 w2) (P + 6) x.toNat (zI 0)) (P + 7) x.toNat (zI 0) = ρ
      have s3 : cRow (d + 1) P (zI x) (sI (sI τ P 8 w) P 9 w2) = f_Roll_relateAll_89 (d + 1) P (zI x) (zI 0) ρ := by
        unfold cRow
        rw [gfS_of hP.s0, ofs_4_6, zI_0, stI_of hP.s6 x0 (by omega) (by omega), gfS_of hP.s0, ofs_4_7, stI_of hP.s7 x0 (by omega) (by omega), hρ]
      have Kρ : Fr (SRel P) τ ρ := by
        rw [← hρ]
        exact ((((Fr.rf _ τ).sI _ (by simp [SRel])).sI _ (by simp [SRel])).sI _ (by simp [SRel])).sI _ (by simp [SRel])
      have r8 : ρ.1 P 8 = w := by rw [← hρ, sI_row _ _ _ _ _ (by omega), sI_row _ _ _ _ _ (by omega), sI_slot _ _ _ _ (by decide), sI_same]
      have r9 : ρ.1 P 9 = w2 := by rw [← hρ, sI_row _ _ _ _ _ (by omega), sI_row _ _ _ _ _ (by omega), sI_same]
      have r6 : ρ.1 (P + 6) x.toNat = zI 0 := by rw [← hρ, sI_row _ _ _ _ _ (by omega), sI_same]
      have r7 : ρ.1 (P + 7) x.toNat = zI 0 := by rw [← hρ, sI_same]
      have ro : ∀ a (k : Nat), (a = P + 6 ∨ a = P + 7) → k ≠ x.toNat → ρ.1 a k = τ.1 a k := fun a k q h => by
        rw [← hρ, sI_slot _ _ _ _ h, sI_slot _ _ _ _ h, sI_row _ _ _ _ _ (by omega), sI_row _ _ _ _ _ (by omega)]
      have Kσρ := K.tr Kρ
      obtain ⟨σ2, a1, a2, a3, a4⟩ := rel89 hP m24 x0 x1 bF bG (d := d) m.toNat 0 ρ (by omega) (by decide) ((Kσρ.2 P 0 (by simp [SRel])).trans e) (fun y y0 y1 => (Kσρ.2 _ _ (by simp [SRel])).trans (hF y y0 y1)) (fun y y0 y1 => (Kσρ.2 _ _ (by simp [SRel])).trans (hG y y0 y1)) (fun y y0 y1 => by rw [r6, gb_0]; exact ⟨fun z => absurd z Bool.false_ne_true, fun z => by omega⟩) (fun y y0 y1 => by rw [r7, gb_0]; exact ⟨fun z => absurd z Bool.false_ne_true, fun z => by omega⟩)
      have u8 : σ2.1 P 8 = w := (a2.2 _ _ (by simp [S67])).trans r8
      have u9 : σ2.1 P 9 = w2 := (a2.2 _ _ (by simp [S67])).trans r9
      have h2' : ∀ z, 0 ≤ z → z < x + 1 → (∀ y, 0 ≤ y → y < 32 → (gb (σ2.1 (P + 6) z.toNat) y = true ↔ y < m ∧ (F y = z ∨ G y = z)) ∧ (gb (σ2.1 (P + 7) z.toNat) y = true ↔ y < m ∧ SibP F G z y)) := fun z z0 z1 => by
        by_cases q : z = x
        · subst q
          exact fun y y0 y1 => ⟨a3 y y0 y1, a4 y y0 y1⟩
        · have n6 : σ2.1 (P + 6) z.toNat = τ.1 (P + 6) z.toNat := (a2.2 _ _ (by simp [S67]; omega)).trans (ro _ _ (Or.inl rfl) (by omega))
          have n7 : σ2.1 (P + 7) z.toNat = τ.1 (P + 7) z.toNat := (a2.2 _ _ (by simp [S67]; omega)).trans (ro _ _ (Or.inr rfl) (by omega))
          rw [n6, n7]
          exact h2 z z0 (by omega)
      obtain ⟨σ', c1, c2, c3, c4⟩ := ih (x + 1) σ2 (.int (zI m)) (by omega) (by omega) (Kσρ.tr (a2.mono fun a k z => by
        simp only [SRel, S67, Bool.or_eq_false_iff, Bool.and_eq_false_iff] at z ⊢
        exact Or.inl z.1)) (fun y y0 y1 => ⟨by rw [u8]; exact gb_step (A := fun y => S y = 0) x0 (by omega) y0 y1 (h1 y y0 y1).1 k8, by rw [u9]; exact gb_step (A := fun y => D y ≠ -1) x0 (by omega) y0 y1 (h1 y y0 y1).2 k9⟩) h2'
      exact ⟨σ', s1.trans (s2.trans (s3.trans (a1.trans c1))), c2, c3, c4⟩
  obtain ⟨σ', a1, a2⟩ := main m.toNat 0 (sI (sI σ P 8 (zI 0)) P 9 (zI 0)) .null (by omega) (by decide) (((Fr.rf _ σ).sI _ (by simp [SRel])).sI _ (by simp [SRel])) (fun y y0 y1 => ⟨by rw [sI_slot _ _ _ _ (by decide), sI_same, gb_0]; exact ⟨fun z => absurd z Bool.false_ne_true, fun z => by omega⟩, by rw [sI_same, gb_0]; exact ⟨fun z => absurd z Bool.false_ne_true, fun z => by omega⟩⟩) fun z z0 z1 => by omega
  refine ⟨σ', ?_, a2⟩
  rw [f_Roll_relateAll_eq, zI_0, pfI_of hP.s0, pfI_of hP.s0]
  exact a1
