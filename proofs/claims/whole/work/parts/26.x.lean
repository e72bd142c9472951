/-! the law's code: one expression (false), one condition (true) from p to q, on k places of a stack -/
def WX (c w : Int → Int) : Nat → Bool → Int → Int → Int → Prop
  | 0, _, _, _, _ => False
  | f + 1, false, p, q, k => 1 ≤ k ∧ ((q = p + 1 ∧ (c p = 35 ∨ c p = 97 ∧ 0 ≤ w p ∧ w p < 8)) ∨ ∃ m, WX c w f false p m k ∧ WX c w f false m (q - 1) (k - 1) ∧ (c (q - 1) = 43 ∨ c (q - 1) = 45 ∨ c (q - 1) = 42 ∨ c (q - 1) = 47 ∨ c (q - 1) = 37))
  | f + 1, true, p, q, k => 1 ≤ k ∧ ((∃ m, WX c w f false p m k ∧ WX c w f false m (q - 1) (k - 1) ∧ (c (q - 1) = 60 ∨ c (q - 1) = 61 ∨ c (q - 1) = 62)) ∨ (WX c w f true p (q - 1) k ∧ c (q - 1) = 33) ∨ ∃ m, WX c w f true p m k ∧ (c m = 38 ∨ c m = 124) ∧ w m = q ∧ WX c w f true (m + 1) q k)
/-- a code of the class is one of the reference -/
def CEq (c w m : Int) : Prop := (c = 35 ∧ m = w ∧ 0 ≤ w ∧ w < 1048576) ∨ (c = 97 ∧ m = 1048576 + w ∧ 0 ≤ w ∧ w < 8) ∨ (c = 43 ∧ m = 2097152) ∨ (c = 45 ∧ m = 3145728) ∨ (c = 42 ∧ m = 4194304) ∨ (c = 47 ∧ m = 5242880) ∨ (c = 37 ∧ m = 6291456) ∨ (c = 60 ∧ m = 7340032) ∨ (c = 62 ∧ m = 8388608) ∨ (c = 61 ∧ m = 9437184) ∨ (c = 33 ∧ m = 10485760) ∨ (c = 38 ∧ m = 11534336 + w ∧ 0 ≤ w ∧ w ≤ 240) ∨ (c = 124 ∧ m = 12582912 + w ∧ 0 ≤ w ∧ w ≤ 240)
def ILaw (l : Nat) (σ : Sg) : Prop := 0 ≤ rd σ l 0 ∧ rd σ l 0 ≤ 16 ∧ rd σ 102 16 = rd σ l 0 ∧ ∀ i, 0 ≤ i → i < rd σ l 0 → rd σ 116 i = rd σ (l + 1) i ∧ rd σ 117 i = rd σ (l + 2) i ∧ rd σ 118 i = rd σ (l + 3) i ∧ rd σ 119 i = rd σ (l + 4) i ∧ 0 ≤ rd σ (l + 2) i ∧ rd σ (l + 2) i ≤ rd σ (l + 3) i ∧ rd σ (l + 3) i ≤ rd σ (l + 4) i ∧ rd σ (l + 4) i ≤ 240 ∧ (∀ j, 0 ≤ j → j < rd σ (l + 4) i → CEq (rd σ (l + 5) j) (rd σ (l + 6) j) (rd σ 115 j)) ∧ (rd σ (l + 1) i ≠ 120 → ∃ f, WX (rd σ (l + 5)) (rd σ (l + 6)) f false (rd σ (l + 2) i) (rd σ (l + 3) i) 60) ∧ ∃ f, WX (rd σ (l + 5)) (rd σ (l + 6)) f true (rd σ (l + 3) i) (rd σ (l + 4) i) 60
def DLaw (l : Nat) (a k : Nat) : Bool := (a == l && k == 0) || a == l + 1 || a == l + 2 || a == l + 3 || a == l + 4 || a == l + 5 || a == l + 6 || (a == 102 && k == 16) || a == 115 || a == 116 || a == 117 || a == 118 || a == 119
theorem ILaw.fr {S : Nat → Nat → Bool} {σ σ' : Sg} {l : Nat} (h : ILaw l σ) (F : Fr S σ σ') (hS : ∀ a k, DLaw l a k = true → S a k = false) : ILaw l σ' := by
  have e : ∀ a, (∀ k, DLaw l a k = true) → rd σ' a = rd σ a := fun a q => funext fun y => fr_rd F (hS a _ (q _))
  have e0 : rd σ' l 0 = rd σ l 0 := fr_rd F (hS _ _ (by simp [DLaw]))
  have e1 := e (l + 1) (fun k => by simp [DLaw])
  have e2 := e (l + 2) (fun k => by simp [DLaw])
  have e3 := e (l + 3) (fun k => by simp [DLaw])
  have e4 := e (l + 4) (fun k => by simp [DLaw])
  have e5 := e (l + 5) (fun k => by simp [DLaw])
  have e6 := e (l + 6) (fun k => by simp [DLaw])
  have e7 : rd σ' 102 16 = rd σ 102 16 := fr_rd F (hS _ _ (by simp [DLaw]))
  have e8 := e 115 (fun k => by simp [DLaw])
  have e9 := e 116 (fun k => by simp [DLaw])
  have e10 := e 117 (fun k => by simp [DLaw])
  have e11 := e 118 (fun k => by simp [DLaw])
  have e12 := e 119 (fun k => by simp [DLaw])
  unfold ILaw at h ⊢
  rw [e0, e1, e2, e3, e4, e5, e6, e7, e8, e9, e10, e11, e12]
  exact h
/-! houses -/
/-- y hangs together with x -/
def Hs (m : Int) (F G D : Int → Int) (x y : Int) : Prop := ∀ K : Int → Prop, K x → (∀ p, 0 ≤ p → p < m → (0 ≤ F p → (K p ↔ K (F p))) ∧ (0 ≤ G p → (K p ↔ K (G p))) ∧ (0 ≤ D p → (K p ↔ K (D p)))) → K y
/-- names that go together in the house of h -/
def Cs (n m : Int) (W H M S F G D : Int → Int) (h : Int) (g : Int → Int) : Prop := ∀ p, 0 ≤ p → p < m → Hs m F G D h p → 0 ≤ g p ∧ g p < n ∧ (0 ≤ F p → g (F p) = H (M (g p))) ∧ (0 ≤ G p → g (G p) = M (g p)) ∧ (0 ≤ D p → g (D p) = if S p = 0 then W (g p) else H (g p))
/-- those whose told names are other ones -/
def Off (m : Int) (T F G D : Int → Int) (h : Int) (g : Int → Int) (s : Int32) : Prop := ∀ y, 0 ≤ y → y < 32 → (gb s y = true ↔ y < m ∧ Hs m F G D h y ∧ 0 ≤ T y ∧ T y ≠ g y)
def HouOk (n m : Int) (W H M S T F G D mb hd fw : Int → Int) (mbs gn : Int → Int32) : Prop :=
  (∀ p, 0 ≤ p → p < m → 0 ≤ hd p ∧ hd p ≤ p ∧ Hs m F G D p (hd p) ∧ (∀ y, 0 ≤ y → y < m → Hs m F G D p y → hd p ≤ y) ∧
    (∀ x, 0 ≤ x → x < 32 → (gb (mbs p) x = true ↔ x < n ∧ ∃ g, Cs n m W H M S F G D p g ∧ g p = x ∧ ∀ y, 0 ≤ y → y < m → Hs m F G D p y → 0 ≤ T y → T y = g y))) ∧
  ∀ h, 0 ≤ h → h < m → hd h = h → (fw h = 25 ∧ ∀ g, ¬ Cs n m W H M S F G D h g) ∨ ∃ g, Cs n m W H M S F G D h g ∧ Off m T F G D h g (gn h) ∧ fw h = cnt (gb (gn h)) 24 ∧ ∀ g' s, Cs n m W H M S F G D h g' → Off m T F G D h g' s → fw h ≤ cnt (gb s) 24 ∧ (g' h < g h → fw h < cnt (gb s) 24)
def IHou (r p : Nat) (σ : Sg) : Prop := HouOk (rd σ r 0) (rd σ p 0) (rd σ (r + 1)) (rd σ (r + 2)) (rd σ (r + 4)) (rd σ (p + 1)) (rd σ (p + 2)) (rd σ (p + 3)) (rd σ (p + 4)) (rd σ (p + 5)) (rd σ 76) (rd σ 77) (rd σ 80) (fun y => σ.1 76 y.toNat) (fun y => σ.1 81 y.toNat)
def DHou (r p : Nat) (a k : Nat) : Bool := (a == r && k == 0) || a == r + 1 || a == r + 2 || a == r + 4 || (a == p && k == 0) || a == p + 1 || a == p + 2 || a == p + 3 || a == p + 4 || a == p + 5 || a == 76 || a == 77 || a == 80 || a == 81
theorem IHou.fr {S : Nat → Nat → Bool} {σ σ' : Sg} {r p : Nat} (h : IHou r p σ) (F : Fr S σ σ') (hS : ∀ a k, DHou r p a k = true → S a k = false) : IHou r p σ' := by
  have e : ∀ a, (∀ k, DHou r p a k = true) → rd σ' a = rd σ a := fun a q => funext fun y => fr_rd F (hS a _ (q _))
  have e0 : rd σ' r 0 = rd σ r 0 := fr_rd F (hS _ _ (by simp [DHou]))
  have z0 : rd σ' p 0 = rd σ p 0 := fr_rd F (hS _ _ (by simp [DHou]))
  have e1 := e (r + 1) (fun k => by simp [DHou])
  have e2 := e (r + 2) (fun k => by simp [DHou])
  have e4 := e (r + 4) (fun k => by simp [DHou])
  have z1 := e (p + 1) (fun k => by simp [DHou])
  have z2 := e (p + 2) (fun k => by simp [DHou])
  have z3 := e (p + 3) (fun k => by simp [DHou])
  have z4 := e (p + 4) (fun k => by simp [DHou])
  have z5 := e (p + 5) (fun k => by simp [DHou])
  have y1 := e 76 (fun k => by simp [DHou])
  have y2 := e 77 (fun k => by simp [DHou])
  have y3 := e 80 (fun k => by simp [DHou])
  have y4 : ∀ k, σ'.1 76 k = σ.1 76 k := fun k => F.2 _ _ (hS _ _ (by simp [DHou]))
  have y5 : ∀ k, σ'.1 81 k = σ.1 81 k := fun k => F.2 _ _ (hS _ _ (by simp [DHou]))
  unfold IHou at h ⊢
  rw [e0, e1, e2, e4, z0, z1, z2, z3, z4, z5, y1, y2, y3]
  simp only [y4, y5]
  exact h
def Inv (r p l : Nat) (σ : Sg) : Prop := IRef r p l σ ∧ ITape σ ∧ IRule r σ ∧ IRoll r p σ ∧ ILaw l σ ∧ IHou r p σ ∧ IVil r σ ∧ IKep σ
def DInv (r p l : Nat) (a k : Nat) : Bool := DTape a k || DRule r a k || DRoll r p a k || DLaw l a k || DHou r p a k || DV 87 103 a k || DKep a k
theorem Inv.fr {S : Nat → Nat → Bool} {σ σ' : Sg} {r p l : Nat} (h : Inv r p l σ) (F : Fr S σ σ') (hS : ∀ a k, DInv r p l a k = true → S a k = false) : Inv r p l σ' :=
  ⟨h.1.fr F, h.2.1.fr F fun a k q => hS a k (by simp [DInv, q]), h.2.2.1.fr F fun a k q => hS a k (by simp [DInv, q]), h.2.2.2.1.fr F fun a k q => hS a k (by simp [DInv, q]), h.2.2.2.2.1.fr F fun a k q => hS a k (by simp [DInv, q]), h.2.2.2.2.2.1.fr F fun a k q => hS a k (by simp [DInv, q]), h.2.2.2.2.2.2.1.fr F (fr_rd F (hS _ _ (by simp [DInv, DRule]))) fun a k q => hS a k (by simp [DInv, q]), h.2.2.2.2.2.2.2.fr F fun a k q => hS a k (by simp [DInv, q])⟩
/-- both do the same, and the invariant stays -/
def Same (f g : Sg → Rs) (σ : Sg) : Prop := ∃ v σ1 σ2 r p l, f σ = rI v σ1 ∧ g σ1 = rI v σ2 ∧ Inv r p l σ2
def SameJ (f g : Sg → Rs) (σ : Sg) : Prop := ∃ v σ1 σ2 r p l, f σ = rJ v σ1 ∧ g σ1 = rJ v σ2 ∧ Inv r p l σ2
