/-! words: the pure machine over bytes -/
def WS : Type := Int × Int × Int × Bool × (Int → Int) × (Int → Int) × (Int → Int) × (Int → Int) × (Int → Int)
def WS.mk (size op digit : Int) (due : Bool) (st pl oa ot os : Int → Int) : WS := (size, op, digit, due, st, pl, oa, ot, os)
def WS.size (W : WS) : Int := W.1
def WS.op (W : WS) : Int := W.2.1
def WS.digit (W : WS) : Int := W.2.2.1
def WS.due (W : WS) : Bool := W.2.2.2.1
def WS.st (W : WS) : Int → Int := W.2.2.2.2.1
def WS.pl (W : WS) : Int → Int := W.2.2.2.2.2.1
def WS.oa (W : WS) : Int → Int := W.2.2.2.2.2.2.1
def WS.ot (W : WS) : Int → Int := W.2.2.2.2.2.2.2.1
def WS.os (W : WS) : Int → Int := W.2.2.2.2.2.2.2.2

def kOf (c : Int) : Int := if c = 102 then 0 else if c = 109 then 1 else if c = 104 then 2 else if c = 119 then 3 else if c = 115 then 4 else if c = 100 then 5 else if c = 98 then 6 else if c = 122 then 7 else -1
theorem kOf_bd (c : Int) : -1 ≤ kOf c ∧ kOf c < 8 := by unfold kOf; repeat' split <;> try decide
def wrep (g : Int → Int) (first whole x : Int) : Int := if x < first + whole then g x else g (first + (x - first) % whole)
theorem wrep_st {g : Int → Int} {first whole x : Int} (h : first + whole ≤ x) (w : 0 < whole) : wrep g first whole x = wrep g first whole (x - whole) := by
  unfold wrep
  rw [if_neg (by omega)]
  by_cases e : x - whole < first + whole
  · rw [if_pos e, show (x - first) % whole = x - first - whole by rw [← Int.sub_emod_right]; exact Int.emod_eq_of_lt (by omega) (by omega), show first + (x - first - whole) = x - whole by omega]
  · rw [if_neg e, show x - whole - first = x - first - whole by omega, Int.sub_emod_right]
def wStart (W : WS) (i : Int) : Int := if W.digit = 0 then i else i - 1
def wTimes (W : WS) : Int := max W.digit 1
def wAdd (W : WS) (i k : Int) : Int ⊕ WS := if 24 < W.size + wTimes W then Sum.inl (-6000 - wStart W i) else Sum.inr (WS.mk (W.size + wTimes W) W.op 0 false (fun x => if x < W.size then W.st x else k) (fun x => if x < W.size then W.pl x else i) W.oa W.ot W.os)
def wOpen (W : WS) (i : Int) : Int ⊕ WS := if W.op = 2 then Sum.inl (-5000 - i) else Sum.inr (WS.mk W.size (W.op + 1) 0 true W.st W.pl (fun x => if x = W.op then wStart W i else W.oa x) (fun x => if x = W.op then wTimes W else W.ot x) (fun x => if x = W.op then W.size else W.os x))
def wLast (W : WS) : Int := W.os (W.op - 1) + (W.size - W.os (W.op - 1)) * W.ot (W.op - 1)
def wPop (W : WS) : Int ⊕ WS := if 24 < wLast W then Sum.inl (-6000 - W.oa (W.op - 1)) else Sum.inr (WS.mk (wLast W) (W.op - 1) W.digit W.due (wrep W.st (W.os (W.op - 1)) (W.size - W.os (W.op - 1))) (wrep W.pl (W.os (W.op - 1)) (W.size - W.os (W.op - 1))) W.oa W.ot W.os)
def wByte (W : WS) (i c : Int) : Int ⊕ WS := if c = 40 then wOpen W i else if c = 41 then (if W.op = 0 ∨ W.due = true ∨ W.digit ≠ 0 then Sum.inl (-1000 - i) else wPop W) else if 50 ≤ c ∧ c ≤ 57 ∧ W.digit = 0 then Sum.inr (WS.mk W.size W.op (c - 48) W.due W.st W.pl W.oa W.ot W.os) else if kOf c = -1 then Sum.inl (-1000 - i) else wAdd W i (kOf c)
def wRun (T : Int → Int) (n : Int) : Nat → Int → WS → Int ⊕ WS
  | 0, i, W => if W.digit ≠ 0 ∨ W.due = true ∨ 0 < W.op then Sum.inl (-1000 - i) else Sum.inr W
  | k + 1, i, W => match wByte W i (T i) with
    | Sum.inl v => Sum.inl v
    | Sum.inr W' => wRun T n k (i + 1) W'
/-- a state that may be: at place i -/
def WSk (i : Int) (W : WS) : Prop := (0 ≤ W.size ∧ W.size ≤ 24) ∧ (0 ≤ W.op ∧ W.op ≤ 2) ∧ (W.digit = 0 ∨ 2 ≤ W.digit ∧ W.digit ≤ 9 ∧ 1 ≤ i) ∧ (∀ x, 0 ≤ x → x < W.size → 0 ≤ W.st x ∧ W.st x < 8 ∧ 0 ≤ W.pl x ∧ W.pl x < i) ∧ (∀ x, 0 ≤ x → x < W.op → 0 ≤ W.oa x ∧ W.oa x < i ∧ 1 ≤ W.ot x ∧ W.ot x ≤ 9 ∧ 0 ≤ W.os x ∧ W.os x ≤ W.size) ∧ (W.due = false → ∀ x, 0 ≤ x → x < W.op → W.os x < W.size)
theorem WSk.s {i : Int} {W : WS} (h : WSk i W) : 0 ≤ W.size ∧ W.size ≤ 24 := h.1
theorem WSk.o {i : Int} {W : WS} (h : WSk i W) : 0 ≤ W.op ∧ W.op ≤ 2 := h.2.1
theorem WSk.d {i : Int} {W : WS} (h : WSk i W) : W.digit = 0 ∨ 2 ≤ W.digit ∧ W.digit ≤ 9 ∧ 1 ≤ i := h.2.2.1
theorem WSk.x {i : Int} {W : WS} (h : WSk i W) : ∀ x, 0 ≤ x → x < W.size → 0 ≤ W.st x ∧ W.st x < 8 ∧ 0 ≤ W.pl x ∧ W.pl x < i := h.2.2.2.1
theorem WSk.y {i : Int} {W : WS} (h : WSk i W) : ∀ x, 0 ≤ x → x < W.op → 0 ≤ W.oa x ∧ W.oa x < i ∧ 1 ≤ W.ot x ∧ W.ot x ≤ 9 ∧ 0 ≤ W.os x ∧ W.os x ≤ W.size := h.2.2.2.2.1
theorem WSk.z {i : Int} {W : WS} (h : WSk i W) : W.due = false → ∀ x, 0 ≤ x → x < W.op → W.os x < W.size := h.2.2.2.2.2
theorem wTimes_bd {i : Int} {W : WS} (h : WSk i W) : 1 ≤ wTimes W ∧ wTimes W ≤ 9 := by have := h.d; unfold wTimes; omega
theorem wStart_bd {i : Int} {W : WS} (h : WSk i W) (i0 : 0 ≤ i) : 0 ≤ wStart W i ∧ wStart W i ≤ i := by have := h.d; unfold wStart; split <;> omega
/-- the class's word at a -/
def CW (a : Nat) (W : WS) (σ : Sg) : Prop := σ.1 a 0 = zI W.size ∧ σ.1 a 3 = zI W.op ∧ σ.1 a 7 = zI W.digit ∧ σ.1 a 8 = bz W.due ∧ (∀ x, 0 ≤ x → x < W.size → σ.1 (a + 1) x.toNat = zI (W.st x) ∧ σ.1 (a + 2) x.toNat = zI (W.pl x)) ∧ (∀ x, 0 ≤ x → x < W.op → σ.1 (a + 3) x.toNat = zI (W.oa x) ∧ σ.1 (a + 4) x.toNat = zI (W.ot x) ∧ σ.1 (a + 5) x.toNat = zI (W.os x))
def isW (a : Nat) : Prop := a = 49 ∨ a = 55
theorem stepOf_sp {σ : Sg} {d : Nat} {c : Int} (hc : -1 ≤ c ∧ c < 256) : f_N_stepOf (d + 1) (zI c) σ = rI (zI (kOf c)) σ := by
  have L : ∀ (k v : Int), -2147483648 ≤ v → v < 2147483648 → 0 ≤ k → k < 8 → FC 1 k.toNat = zI v → f_N_stepOf_2 d (zI c) (zI k) σ = if c = v then rI (zI k) σ else f_N_stepOf_2 d (zI c) (zI (k + 1)) σ := fun k v v0 v1 k0 k1 e => by
    rw [f_N_stepOf_2_eq, show (8 : Int32) = zI 8 from zI_lit 8, if_pos (by rw [zI_le (by omega) (by omega)]; exact k1), bnd_zI k0 (by omega) (by omega), ix_zI k0 (by omega), e, show (1 : Int32) = zI 1 from zI_lit 1, zI_add]
    by_cases q : c = v
    · rw [if_pos (congrArg zI q.symm), if_pos q]
    · rw [if_neg (by rw [zI_eq ⟨v0, v1⟩ (by omega)]; exact fun z => q z.symm), if_neg q]
  rw [f_N_stepOf_eq, zI_0, L 0 102 (by decide) (by decide) (by decide) (by decide) rfl, L (0 + 1) 109 (by decide) (by decide) (by decide) (by decide) rfl, L (0 + 1 + 1) 104 (by decide) (by decide) (by decide) (by decide) rfl, L (0 + 1 + 1 + 1) 119 (by decide) (by decide) (by decide) (by decide) rfl, L (0 + 1 + 1 + 1 + 1) 115 (by decide) (by decide) (by decide) (by decide) rfl, L (0 + 1 + 1 + 1 + 1 + 1) 100 (by decide) (by decide) (by decide) (by decide) rfl, L (0 + 1 + 1 + 1 + 1 + 1 + 1) 98 (by decide) (by decide) (by decide) (by decide) rfl, L (0 + 1 + 1 + 1 + 1 + 1 + 1 + 1) 122 (by decide) (by decide) (by decide) (by decide) rfl]
  unfold kOf
  have e : f_N_stepOf_2 d (zI c) (zI (0 + 1 + 1 + 1 + 1 + 1 + 1 + 1 + 1)) σ = rI (zI (-1)) σ := by
    rw [f_N_stepOf_2_eq, if_neg (by decide)]; rfl
  rw [e]
  repeat' split <;> try rfl
  all_goals rfl
theorem kindOf_sp {σ : Sg} {d : Nat} {c : Int} (hc : -1 ≤ c ∧ c < 256) : f_M_kindOf (d + 2) (zI c) σ = rI (zI (kOf c)) σ := by
  have L : ∀ (k v : Int), -2147483648 ≤ v → v < 2147483648 → 0 ≤ k → k < 8 → FC 1 (ix (zI k)) = zI v → f_M_kindOf_2 (d + 1) (zI c) (zI k) σ = if c = v then rI (zI k) σ else f_M_kindOf_2 (d + 1) (zI c) (zI (k + 1)) σ := fun k v v0 v1 k0 k1 e => by
    rw [f_M_kindOf_2_eq, show (8 : Int32) = zI 8 from zI_lit 8, if_pos (by rw [zI_le (by omega) (by omega)]; exact k1), letterOf_sp k0 k1, cI_rI, e, show (1 : Int32) = zI 1 from zI_lit 1, zI_add]
    by_cases q : c = v
    · rw [if_pos (congrArg zI q.symm), if_pos q]
    · rw [if_neg (by rw [zI_eq ⟨v0, v1⟩ (by omega)]; exact fun z => q z.symm), if_neg q]
  rw [f_M_kindOf_eq, zI_0, L 0 102 (by decide) (by decide) (by decide) (by decide) rfl, L (0 + 1) 109 (by decide) (by decide) (by decide) (by decide) rfl, L (0 + 1 + 1) 104 (by decide) (by decide) (by decide) (by decide) rfl, L (0 + 1 + 1 + 1) 119 (by decide) (by decide) (by decide) (by decide) rfl, L (0 + 1 + 1 + 1 + 1) 115 (by decide) (by decide) (by decide) (by decide) rfl, L (0 + 1 + 1 + 1 + 1 + 1) 100 (by decide) (by decide) (by decide) (by decide) rfl, L (0 + 1 + 1 + 1 + 1 + 1 + 1) 98 (by decide) (by decide) (by decide) (by decide) rfl, L (0 + 1 + 1 + 1 + 1 + 1 + 1 + 1) 122 (by decide) (by decide) (by decide) (by decide) rfl]
  unfold kOf
  have e : f_M_kindOf_2 (d + 1) (zI c) (zI (0 + 1 + 1 + 1 + 1 + 1 + 1 + 1 + 1)) σ = rI (zI (-1)) σ := by
    rw [f_M_kindOf_2_eq, if_neg (by decide)]; rfl
  rw [e]
  repeat' split <;> try rfl
  all_goals rfl
