/-! THE INVARIANT, piece by piece; each hangs on few cells -/
def isP (p : Nat) : Prop := p = 17 ∨ p = 25
def isL (l : Nat) : Prop := l = 33 ∨ l = 41
theorem isP.s0 {p : Nat} (h : isP p) : (SH p).1 = 4 := by rcases h with rfl | rfl <;> rfl
theorem isP.s1 {p : Nat} (h : isP p) : SH (p + 1) = (14, 24) := by rcases h with rfl | rfl <;> rfl
theorem isP.s2 {p : Nat} (h : isP p) : SH (p + 2) = (14, 24) := by rcases h with rfl | rfl <;> rfl
theorem isP.s3 {p : Nat} (h : isP p) : SH (p + 3) = (14, 24) := by rcases h with rfl | rfl <;> rfl
theorem isP.s4 {p : Nat} (h : isP p) : SH (p + 4) = (14, 24) := by rcases h with rfl | rfl <;> rfl
theorem isP.s5 {p : Nat} (h : isP p) : SH (p + 5) = (14, 24) := by rcases h with rfl | rfl <;> rfl
theorem isP.s6 {p : Nat} (h : isP p) : SH (p + 6) = (14, 24) := by rcases h with rfl | rfl <;> rfl
theorem isP.s7 {p : Nat} (h : isP p) : SH (p + 7) = (14, 24) := by rcases h with rfl | rfl <;> rfl
theorem isL.s0 {l : Nat} (h : isL l) : (SH l).1 = 2 := by rcases h with rfl | rfl <;> rfl
theorem isL.s1 {l : Nat} (h : isL l) : SH (l + 1) = (14, 16) := by rcases h with rfl | rfl <;> rfl
theorem isL.s2 {l : Nat} (h : isL l) : SH (l + 2) = (14, 16) := by rcases h with rfl | rfl <;> rfl
theorem isL.s3 {l : Nat} (h : isL l) : SH (l + 3) = (14, 16) := by rcases h with rfl | rfl <;> rfl
theorem isL.s4 {l : Nat} (h : isL l) : SH (l + 4) = (14, 16) := by rcases h with rfl | rfl <;> rfl
theorem isL.s5 {l : Nat} (h : isL l) : SH (l + 5) = (13, 240) := by rcases h with rfl | rfl <;> rfl
theorem isL.s6 {l : Nat} (h : isL l) : SH (l + 6) = (14, 240) := by rcases h with rfl | rfl <;> rfl
theorem isL.s7 {l : Nat} (h : isL l) : SH (l + 7) = (14, 64) := by rcases h with rfl | rfl <;> rfl
def IRef (r p l : Nat) (σ : Sg) : Prop := isR r ∧ isP p ∧ isL l ∧ σ.2.2 4 1 = r ∧ σ.2.2 4 2 = 19 - r ∧ σ.2.2 4 3 = p ∧ σ.2.2 4 4 = 42 - p ∧ σ.2.2 4 5 = l ∧ σ.2.2 4 6 = 74 - l ∧ (σ.2.2 61 7 = 67 ∧ σ.2.2 61 8 = 68 ∨ σ.2.2 61 7 = 68 ∧ σ.2.2 61 8 = 67)
theorem IRef.fr {S : Nat → Nat → Bool} {σ σ' : Sg} {r p l : Nat} (h : IRef r p l σ) (F : Fr S σ σ') : IRef r p l σ' := by
  unfold IRef at h ⊢; rw [F.1]; exact h
/-- the tape -/
def ITape (σ : Sg) : Prop := 0 ≤ rd σ 5 1 ∧ rd σ 5 1 ≤ 260 ∧ rd σ 102 7 = rd σ 5 1 ∧ ∀ k, 0 ≤ k → k < rd σ 5 1 → 0 ≤ rd σ 6 k ∧ rd σ 6 k < 256 ∧ σ.1 108 k.toNat &&& zI 255 = zI (rd σ 6 k)
def DTape (a k : Nat) : Bool := (a == 5 && k == 1) || (a == 102 && k == 7) || a == 6 || a == 108
theorem ITape.fr {S : Nat → Nat → Bool} {σ σ' : Sg} (h : ITape σ) (F : Fr S σ σ') (hS : ∀ a k, DTape a k = true → S a k = false) : ITape σ' := by
  have e : ∀ a y, DTape a y.toNat = true → rd σ' a y = rd σ a y := fun a y q => fr_rd F (hS a _ q)
  have e6 : rd σ' 6 = rd σ 6 := funext fun y => e 6 y rfl
  have e8 : ∀ k, σ'.1 108 k = σ.1 108 k := fun k => F.2 _ _ (hS _ _ rfl)
  unfold ITape at h ⊢
  rw [e 5 1 rfl, e 102 7 rfl, e6]
  simp only [e8]
  exact h
/-- the rule, in both -/
def IRule (r : Nat) (σ : Sg) : Prop := RuleAt σ r (rd σ r 0) ∧ (rd σ r 0 = 0 ∨ 2 ≤ rd σ r 0) ∧ rd σ 102 5 = rd σ r 0 ∧ ∀ x, 0 ≤ x → x < rd σ r 0 → rd σ 106 x = rd σ (r + 1) x ∧ rd σ 107 x = rd σ (r + 3) x
def DRule (r : Nat) (a k : Nat) : Bool := a == r || a == r + 1 || a == r + 2 || a == r + 3 || a == r + 4 || (a == 102 && k == 5) || a == 106 || a == 107
theorem IRule.fr {S : Nat → Nat → Bool} {σ σ' : Sg} {r : Nat} (h : IRule r σ) (F : Fr S σ σ') (hS : ∀ a k, DRule r a k = true → S a k = false) : IRule r σ' := by
  have e : ∀ a, (∀ k, DRule r a k = true) → rd σ' a = rd σ a := fun a q => funext fun y => fr_rd F (hS a _ (q _))
  have e0 := e r (fun k => by simp [DRule])
  have e1 := e (r + 1) (fun k => by simp [DRule])
  have e2 := e (r + 2) (fun k => by simp [DRule])
  have e3 := e (r + 3) (fun k => by simp [DRule])
  have e4 := e (r + 4) (fun k => by simp [DRule])
  have e5 : rd σ' 102 5 = rd σ 102 5 := fr_rd F (hS _ _ (by simp [DRule]))
  have e6 := e 106 (fun k => by simp [DRule])
  have e7 := e 107 (fun k => by simp [DRule])
  unfold IRule RuleAt at h ⊢
  rw [e0, e1, e2, e3, e4, e5, e6, e7]
  exact h
/-- people: as told -/
def RlOk (n m : Int) (S T F G D : Int → Int) : Prop := 0 ≤ m ∧ m ≤ 24 ∧ ∀ p, 0 ≤ p → p < m → (S p = 0 ∨ S p = 1) ∧ -1 ≤ T p ∧ T p < n ∧ (F p = -1 ∨ 0 ≤ F p ∧ F p < p ∧ S (F p) = 0) ∧ (G p = -1 ∨ 0 ≤ G p ∧ G p < p ∧ S (G p) = 1) ∧ (D p = -1 ∨ 0 ≤ D p ∧ D p < m ∧ D (D p) = p ∧ S (D p) ≠ S p)
def IRoll (r p : Nat) (σ : Sg) : Prop := RlOk (rd σ r 0) (rd σ p 0) (rd σ (p + 1)) (rd σ (p + 2)) (rd σ (p + 3)) (rd σ (p + 4)) (rd σ (p + 5)) ∧ rd σ 102 69 = rd σ p 0 ∧ (∀ x, 0 ≤ x → x < rd σ p 0 → rd σ 142 x = rd σ (p + 1) x ∧ rd σ 143 x = rd σ (p + 2) x ∧ rd σ 144 x = rd σ (p + 3) x ∧ rd σ 145 x = rd σ (p + 4) x ∧ rd σ 146 x = rd σ (p + 5) x) ∧
  (∀ x y, 0 ≤ x → x < rd σ p 0 → 0 ≤ y → y < 32 → gb (σ.1 (p + 6) x.toNat) y = decide (y < rd σ p 0 ∧ (rd σ (p + 3) y = x ∨ rd σ (p + 4) y = x)) ∧ gb (σ.1 (p + 7) x.toNat) y = decide (y < rd σ p 0 ∧ y ≠ x ∧ (rd σ (p + 3) x ≠ -1 ∧ rd σ (p + 3) x = rd σ (p + 3) y ∨ rd σ (p + 4) x ≠ -1 ∧ rd σ (p + 4) x = rd σ (p + 4) y))) ∧
  ∀ y, 0 ≤ y → y < 32 → gb (σ.1 p 8) y = decide (y < rd σ p 0 ∧ rd σ (p + 1) y = 0) ∧ gb (σ.1 p 9) y = decide (y < rd σ p 0 ∧ rd σ (p + 5) y ≠ -1)
def DRoll (r p : Nat) (a k : Nat) : Bool := (a == r && k == 0) || (a == p && (k == 0 || k == 8 || k == 9)) || a == p + 1 || a == p + 2 || a == p + 3 || a == p + 4 || a == p + 5 || a == p + 6 || a == p + 7 || (a == 102 && k == 69) || a == 142 || a == 143 || a == 144 || a == 145 || a == 146
theorem IRoll.fr {S : Nat → Nat → Bool} {σ σ' : Sg} {r p : Nat} (h : IRoll r p σ) (F : Fr S σ σ') (hS : ∀ a k, DRoll r p a k = true → S a k = false) : IRoll r p σ' := by
  have e : ∀ a, (∀ k, DRoll r p a k = true) → rd σ' a = rd σ a := fun a q => funext fun y => fr_rd F (hS a _ (q _))
  have z0 : rd σ' r 0 = rd σ r 0 := fr_rd F (hS _ _ (by simp [DRoll]))
  have e0 : rd σ' p 0 = rd σ p 0 := fr_rd F (hS _ _ (by simp [DRoll]))
  have e1 := e (p + 1) (fun k => by simp [DRoll])
  have e2 := e (p + 2) (fun k => by simp [DRoll])
  have e3 := e (p + 3) (fun k => by simp [DRoll])
  have e4 := e (p + 4) (fun k => by simp [DRoll])
  have e5 := e (p + 5) (fun k => by simp [DRoll])
  have e6 : ∀ k, σ'.1 (p + 6) k = σ.1 (p + 6) k := fun k => F.2 _ _ (hS _ _ (by simp [DRoll]))
  have e7 : ∀ k, σ'.1 (p + 7) k = σ.1 (p + 7) k := fun k => F.2 _ _ (hS _ _ (by simp [DRoll]))
  have e8 : σ'.1 p 8 = σ.1 p 8 := F.2 _ _ (hS _ _ (by simp [DRoll]))
  have e9 : σ'.1 p 9 = σ.1 p 9 := F.2 _ _ (hS _ _ (by simp [DRoll]))
  have e10 : rd σ' 102 69 = rd σ 102 69 := fr_rd F (hS _ _ (by simp [DRoll]))
  have e11 := e 142 (fun k => by simp [DRoll])
  have e12 := e 143 (fun k => by simp [DRoll])
  have e13 := e 144 (fun k => by simp [DRoll])
  have e14 := e 145 (fun k => by simp [DRoll])
  have e15 := e 146 (fun k => by simp [DRoll])
  unfold IRoll at h ⊢
  rw [z0, e0, e1, e2, e3, e4, e5, e8, e9, e10, e11, e12, e13, e14, e15]
  simp only [e6, e7]
  exact h
/-- a village at a; its picture in a row b of the reference -/
def VOk (n : Int) (σ : Sg) (a : Nat) : Prop := (∀ x, 0 ≤ x → x < 6 → 0 ≤ rd σ (a + 1) x ∧ rd σ (a + 1) x ≤ 9999 ∧ 0 ≤ rd σ (a + 2) x ∧ rd σ (a + 2) x ≤ 9999 ∧ 0 ≤ rd σ (a + 3) x ∧ rd σ (a + 3) x ≤ 9999 ∧ (n ≤ x → rd σ (a + 1) x = 0 ∧ rd σ (a + 2) x = 0 ∧ rd σ (a + 3) x = 0)) ∧ 0 ≤ rd σ a 3 ∧ rd σ a 3 ≤ 9999 ∧ 0 ≤ rd σ a 4 ∧ rd σ a 4 ≤ 65535
def VEq (σ : Sg) (a b : Nat) : Prop := (∀ x, 0 ≤ x → x < 6 → rd σ b x = rd σ (a + 1) x ∧ rd σ b (6 + x) = rd σ (a + 2) x ∧ rd σ b (12 + x) = rd σ (a + 3) x) ∧ rd σ b 18 = rd σ a 3 ∧ rd σ b 19 = rd σ a 4
def DV (a b x k : Nat) : Bool := (x == a && (k == 3 || k == 4)) || x == a + 1 || x == a + 2 || x == a + 3 || x == b
theorem V_fr {S : Nat → Nat → Bool} {σ σ' : Sg} {n : Int} {a b : Nat} (h : VOk n σ a ∧ VEq σ a b) (F : Fr S σ σ') (hS : ∀ x k, DV a b x k = true → S x k = false) : VOk n σ' a ∧ VEq σ' a b := by
  have e : ∀ x, (∀ k, DV a b x k = true) → rd σ' x = rd σ x := fun a q => funext fun y => fr_rd F (hS a _ (q _))
  have e1 := e (a + 1) (fun k => by simp [DV])
  have e2 := e (a + 2) (fun k => by simp [DV])
  have e3 := e (a + 3) (fun k => by simp [DV])
  have e4 := e b (fun k => by simp [DV])
  have e5 : rd σ' a 3 = rd σ a 3 := fr_rd F (hS _ _ (by simp [DV]))
  have e6 : rd σ' a 4 = rd σ a 4 := fr_rd F (hS _ _ (by simp [DV]))
  unfold VOk VEq at h ⊢
  rw [e1, e2, e3, e4, e5, e6]
  exact h
def IVil (r : Nat) (σ : Sg) : Prop := VOk (rd σ r 0) σ 87 ∧ VEq σ 87 103
theorem IVil.fr {S : Nat → Nat → Bool} {σ σ' : Sg} {r : Nat} (h : IVil r σ) (F : Fr S σ σ') (h0 : rd σ' r 0 = rd σ r 0) (hS : ∀ x k, DV 87 103 x k = true → S x k = false) : IVil r σ' := by
  unfold IVil at h ⊢; rw [h0]; exact V_fr h F hS
def IKep (σ : Sg) : Prop := (rd σ 4 17 = 0 ∨ rd σ 4 17 = 1) ∧ rd σ 102 83 = rd σ 4 17 ∧ (rd σ 4 17 = 1 → rd σ 102 84 = rd σ 4 16 ∧ 0 ≤ rd σ 4 16 ∧ rd σ 4 16 ≤ 6 ∧ VOk 6 σ 97 ∧ VEq σ 97 105)
def DKep (a k : Nat) : Bool := (a == 4) || (a == 102 && (k == 83 || k == 84)) || DV 97 105 a k
theorem IKep.fr {S : Nat → Nat → Bool} {σ σ' : Sg} (h : IKep σ) (F : Fr S σ σ') (hS : ∀ x k, DKep x k = true → S x k = false) : IKep σ' := by
  have e1 : rd σ' 4 17 = rd σ 4 17 := fr_rd F (hS _ _ (by simp [DKep]))
  have e2 : rd σ' 4 16 = rd σ 4 16 := fr_rd F (hS _ _ (by simp [DKep]))
  have e3 : rd σ' 102 83 = rd σ 102 83 := fr_rd F (hS _ _ (by simp [DKep]))
  have e4 : rd σ' 102 84 = rd σ 102 84 := fr_rd F (hS _ _ (by simp [DKep]))
  unfold IKep at h ⊢
  rw [e1, e2, e3, e4]
  exact ⟨h.1, h.2.1, fun q => ⟨(h.2.2 q).1, (h.2.2 q).2.1, (h.2.2 q).2.2.1, V_fr (h.2.2 q).2.2.2 F fun x k z => hS x k (by simp [DKep, z])⟩⟩
