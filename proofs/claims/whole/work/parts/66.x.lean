/-! changing names again and again -/
theorem php : ∀ (n : Nat) (g : Nat → Int), (∀ i, i ≤ n → 0 ≤ g i ∧ g i < n) → ∃ i j, i < j ∧ j ≤ n ∧ g i = g j
  | 0, g, h => by have := h 0 (Nat.le_refl 0); omega
  | n + 1, g, h => by
    by_cases q : ∃ i, i ≤ n ∧ g i = g (n + 1)
    · obtain ⟨i, i1, e⟩ := q; exact ⟨i, n + 1, by omega, Nat.le_refl _, e⟩
    · have hn := h (n + 1) (Nat.le_refl _)
      have q : ∀ i, i ≤ n → g i ≠ g (n + 1) := fun i hi e => q ⟨i, hi, e⟩
      obtain ⟨i, j, h1, h2, h3⟩ := php n (fun i => if g i = n then g (n + 1) else g i) (fun i hi => by
        have a := h i (by omega); have b := q i hi
        show 0 ≤ (if g i = n then g (n + 1) else g i) ∧ (if g i = n then g (n + 1) else g i) < (n : Int)
        split <;> omega)
      have b1 := q i (by omega); have b2 := q j h2
      refine ⟨i, j, h1, by omega, ?_⟩
      have h3 : (if g i = n then g (n + 1) else g i) = (if g j = n then g (n + 1) else g j) := h3
      split at h3 <;> split at h3 <;> omega
theorem lstN {P : Nat → Prop} : ∀ n, P n → ∃ k, k ≤ n ∧ P k ∧ ∀ j, j < k → ¬ P j := by
  intro n
  induction n using Nat.strongRecOn with
  | _ n ih =>
    intro h
    by_cases q : ∃ j, j < n ∧ P j
    · obtain ⟨j, j1, j2⟩ := q
      obtain ⟨k, k1, k2⟩ := ih j j1 j2
      exact ⟨k, by omega, k2⟩
    · exact ⟨n, Nat.le_refl _, h, fun j j1 j2 => q ⟨j, j1, j2⟩⟩
def itF (f : Int → Int) : Nat → Int → Int
  | 0, x => x
  | m + 1, x => f (itF f m x)
def onN (n : Int) (f : Int → Int) : Prop := (∀ x, 0 ≤ x → x < n → 0 ≤ f x ∧ f x < n) ∧ ∀ x y, 0 ≤ x → x < n → 0 ≤ y → y < n → f x = f y → x = y
theorem itF_lt {n : Int} {f : Int → Int} (h : onN n f) : ∀ (m : Nat) (x : Int), 0 ≤ x → x < n → 0 ≤ itF f m x ∧ itF f m x < n
  | 0, _, h0, h1 => ⟨h0, h1⟩
  | m + 1, x, h0, h1 => h.1 _ (itF_lt h m x h0 h1).1 (itF_lt h m x h0 h1).2
theorem itF_add (f : Int → Int) : ∀ (a b : Nat) (x : Int), itF f (a + b) x = itF f a (itF f b x)
  | 0, b, x => by rw [Nat.zero_add]; rfl
  | a + 1, b, x => by rw [Nat.succ_add]; exact congrArg f (itF_add f a b x)
theorem itF_inj {n : Int} {f : Int → Int} (h : onN n f) : ∀ (m : Nat) (x y : Int), 0 ≤ x → x < n → 0 ≤ y → y < n → itF f m x = itF f m y → x = y
  | 0, _, _, _, _, _, _, e => e
  | m + 1, x, y, a, b, c, d, e => itF_inj h m x y a b c d (h.2 _ _ (itF_lt h m x a b).1 (itF_lt h m x a b).2 (itF_lt h m y c d).1 (itF_lt h m y c d).2 e)
theorem itF_per {f : Int → Int} {L : Nat} {x : Int} (h : itF f L x = x) : ∀ q : Nat, itF f (L * q) x = x
  | 0 => rfl
  | q + 1 => by rw [Nat.mul_succ, itF_add, h]; exact itF_per h q
/-- the circle of a name -/
def IsC (f : Int → Int) (n x : Int) (L : Nat) : Prop := 1 ≤ L ∧ (L : Int) ≤ n ∧ itF f L x = x ∧ ∀ j, 1 ≤ j → j < L → itF f j x ≠ x
theorem circ_ex {n : Int} {f : Int → Int} (h : onN n f) {x : Int} (h0 : 0 ≤ x) (h1 : x < n) : ∃ L, IsC f n x L := by
  obtain ⟨i, j, ij, jn, e⟩ := php n.toNat (fun i => itF f i x) fun i _ => by
    have := itF_lt h i x h0 h1
    show 0 ≤ itF f i x ∧ itF f i x < (n.toNat : Int)
    omega
  have e : itF f i x = itF f j x := e
  have hj := itF_lt h (j - i) x h0 h1
  have e2 : itF f (j - i) x = x := by
    refine (itF_inj h i x _ h0 h1 hj.1 hj.2 ?_).symm
    rw [← itF_add, show i + (j - i) = j by omega]; exact e
  obtain ⟨L, L1, ⟨L2, L3⟩, L4⟩ := lstN (P := fun m => 1 ≤ m ∧ itF f m x = x) (j - i) ⟨by omega, e2⟩
  exact ⟨L, L2, by omega, L3, fun j j1 j2 j3 => L4 j j2 ⟨j1, j3⟩⟩
theorem circ_dvd {n : Int} {f : Int → Int} {x : Int} {L : Nat} (h : IsC f n x L) (m : Nat) : itF f m x = x ↔ L ∣ m := by
  obtain ⟨h1, -, h2, h3⟩ := h
  constructor
  · intro e
    have e1 : itF f (m % L) x = x := by
      have := Nat.mod_add_div m L
      rw [← this, itF_add, itF_per h2] at e
      exact e
    have lt := Nat.mod_lt m (show L > 0 by omega)
    rcases Nat.eq_zero_or_pos (m % L) with z | z
    · exact Nat.dvd_of_mod_eq_zero z
    · exact absurd e1 (h3 _ z lt)
  · rintro ⟨q, rfl⟩; exact itF_per h2 q
theorem lcm_step {A L k : Nat} (k1 : 1 ≤ k) (hd : L ∣ k * A) (hl : ∀ j, 1 ≤ j → j < k → ¬ L ∣ j * A) (m : Nat) : (A ∣ m ∧ L ∣ m) ↔ k * A ∣ m := by
  constructor
  · rintro ⟨⟨t, rfl⟩, h2⟩
    have e := Nat.mod_add_div t k
    have d1 : L ∣ (t % k) * A := by
      have e2 : A * t = (t % k) * A + (k * A) * (t / k) := by
        rw [← e, Nat.mul_add, Nat.mul_comm A (t % k), e, Nat.mul_comm A, Nat.mul_right_comm]
      rw [e2] at h2
      exact (Nat.dvd_add_left (Nat.dvd_trans hd ⟨_, rfl⟩)).mp h2
    have lt := Nat.mod_lt t (show k > 0 by omega)
    rcases Nat.eq_zero_or_pos (t % k) with z | z
    · rw [Nat.mul_comm k A]; exact Nat.mul_dvd_mul (Nat.dvd_refl A) (Nat.dvd_of_mod_eq_zero z)
    · exact absurd d1 (hl _ z lt)
  · intro h
    exact ⟨Nat.dvd_trans ⟨k, Nat.mul_comm k A⟩ h, Nat.dvd_trans hd h⟩
theorem goF_inj {n : Int} {W H C M : Int → Int} (h : NmOk n W H C M) {k s x y : Int} (x0 : 0 ≤ x) (x1 : x < n) (y0 : 0 ≤ y) (y1 : y < n) (e : goF W H C M k s x = goF W H C M k s y) : x = y := by
  obtain ⟨⟨a1, a2, a3, a4, a5, a6⟩, b1, b2, b3, b4, b5, b6⟩ := h.2 x x0 x1
  obtain ⟨⟨c1, c2, c3, c4, c5, c6⟩, d1, d2, d3, d4, d5, d6⟩ := h.2 y y0 y1
  have iw : W x = W y → x = y := fun e => by rw [← a5, e, c5]
  have ih : H x = H y → x = y := fun e => by rw [← a6, e, c6]
  have ic : C x = C y → x = y := fun e => by rw [← b5, e, d5]
  have im : M x = M y → x = y := fun e => by rw [← b6, e, d6]
  have icw : C (W x) = C (W y) → x = y := fun e => iw (by
    rw [← (h.2 _ a1 a2).2.2.2.2.2.1, e, (h.2 _ c1 c2).2.2.2.2.2.1])
  have ihm : H (M x) = H (M y) → x = y := fun e => im (by
    rw [← (h.2 _ b3 b4).1.2.2.2.2.2, e, (h.2 _ d3 d4).1.2.2.2.2.2])
  unfold goF at e
  split at e; exact ihm e
  split at e; exact im e
  split at e; exact ih e
  split at e; exact iw e
  split at e
  · split at e
    · exact icw e
    · exact ic e
  split at e
  · split at e
    · exact icw e
    · exact ic e
  exact e
theorem ldF_inj {n : Int} {G : Int → Int → Int → Int} {st : Int → Int} (hG : ∀ k s, onN n (G k s)) : ∀ (k : Nat) (i s : Int), onN n (ldF G st k i s)
  | 0, _, _ => ⟨fun _ h0 h1 => ⟨h0, h1⟩, fun _ _ _ _ _ _ e => e⟩
  | k + 1, i, s => by
    have ih := ldF_inj (st := st) hG k (i + 1) (st i % 2)
    have g := hG (st i) s
    exact ⟨fun x h0 h1 => ih.1 _ (g.1 x h0 h1).1 (g.1 x h0 h1).2, fun x y x0 x1 y0 y1 e => g.2 x y x0 x1 y0 y1 (ih.2 _ _ (g.1 x x0 x1).1 (g.1 x x0 x1).2 (g.1 y y0 y1).1 (g.1 y y0 y1).2 e)⟩
theorem gOf_on {σ : Sg} {r : Nat} {n : Int} (h : RuleAt σ r n) (k s : Int) : onN n (gOf σ r k s) := ⟨fun _ h0 h1 => goF_lt h.2.2 h0 h1, fun _ _ x0 x1 y0 y1 e => goF_inj h.2.2 x0 x1 y0 y1 e⟩
