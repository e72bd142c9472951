/-! rule: the wives, in both -/
def SRk (q a k : Nat) : Bool := a == q || a == q + 1 || a == q + 2 || a == q + 3 || a == q + 4 || (a == 5 && k == 4)
def SMk (a k : Nat) : Bool := a == 122 || a == 123 || (a == 102 && (k == 8 || k == 9 || k == 10 || k == 32 || k == 13 || k == 15))
/-- names at j, ..., j + i - 1 of the text, no two alike -/
def NmsAt (T : Int → Int) (j i : Int) : Prop := (∀ x, 0 ≤ x → x < i → 97 ≤ T (j + x) ∧ T (j + x) ≤ 102) ∧ ∀ x y, 0 ≤ x → x < y → y < i → T (j + x) ≠ T (j + y)
def CWv (q : Nat) (n : Int) (T : Int → Int) (j i : Int) (b : Nat) (σ : Sg) : Prop := CT 0 n T σ ∧ σ.1 5 4 = zI (j + i) ∧ ∀ x, 0 ≤ x → x < i → σ.1 (q + b) x.toNat = zI (T (j + x) - 97)
def MWv (n : Int) (T : Int → Int) (j i : Int) (a : Nat) (τ : Sg) : Prop := MT 0 n T τ ∧ τ.1 102 8 = zI (j + i) ∧ τ.1 102 9 = zI n ∧ ∀ x, 0 ≤ x → x < i → τ.1 a x.toNat = zI (T (j + x) - 97)
def SeenN (T : Int → Int) (j i : Int) (s : Int32) : Prop := ∀ y, 0 ≤ y → y < 32 → (gb s y = true ↔ ∃ x, 0 ≤ x ∧ x < i ∧ T (j + x) - 97 = y)
theorem SeenN.next {T : Int → Int} {j i : Int} {s : Int32} (h : SeenN T j i s) (i0 : 0 ≤ i) (b0 : 97 ≤ T (j + i)) (b1 : T (j + i) ≤ 102) : SeenN T j (i + 1) (s ||| (zI 1 <<< (zI (T (j + i) - 97) &&& zI 31))) := fun y y0 y1 => by
  rw [gb_or, Bool.or_eq_true, h y y0 y1, gb_sh (by omega) (by omega) y0 y1, decide_eq_true_eq]
  constructor
  · rintro (⟨x, x0, x1, e⟩ | e)
    · exact ⟨x, x0, by omega, e⟩
    · exact ⟨i, i0, by omega, e.symm⟩
  · rintro ⟨x, x0, x1, e⟩
    by_cases u : x = i
    · subst u; exact Or.inr e.symm
    · exact Or.inl ⟨x, x0, by omega, e⟩
theorem NmsAt.next {T : Int → Int} {j i : Int} (h : NmsAt T j i) (b0 : 97 ≤ T (j + i)) (b1 : T (j + i) ≤ 102) (no : ¬ ∃ x, 0 ≤ x ∧ x < i ∧ T (j + x) - 97 = T (j + i) - 97) : NmsAt T j (i + 1) := ⟨fun x x0 x1 => by
  by_cases u : x = i
  · subst u; exact ⟨b0, b1⟩
  · exact h.1 x x0 (by omega), fun x y x0 xy y1 e => by
  by_cases u : y = i
  · subst u; exact no ⟨x, x0, xy, by omega⟩
  · exact h.2 x y x0 xy (by omega) e⟩
theorem wivesBoth {q : Nat} (hq : isR q) {n : Int} {T : Int → Int} (n0 : 0 ≤ n) (n20 : n ≤ 20) (tb : ∀ j, 0 ≤ j → j < n → 0 ≤ T j ∧ T j < 256) {σ0 τ0 : Sg} {d d2 : Nat} :
    ∀ (b : Nat) (i : Int), i + b = 7 → 0 ≤ i → i ≤ n → NmsAt T 0 i → ∃ v k : Int, -100000 < v ∧ (v < 0 ∨ v = 0 ∧ 2 ≤ k ∧ k ≤ 6 ∧ k < n ∧ NmsAt T 0 k ∧ ∀ x, 0 ≤ x → x < k → T x - 97 < k) ∧
      (∀ (σ : Sg) (s : Int32) (w : Value), Fr (SRk q) σ0 σ → CWv q n T 0 i 1 σ → SeenN T 0 i s → ∃ σ', f_Rule_readWives_4 (d + 2) q s (zI i) w σ = rI (zI v) σ' ∧ Fr (SRk q) σ0 σ' ∧ (v = 0 → σ'.1 q 0 = zI k ∧ σ'.1 5 4 = zI (k + 1) ∧ CT 0 n T σ' ∧ ∀ x, 0 ≤ x → x < k → σ'.1 (q + 1) x.toNat = zI (T x - 97))) ∧
      (∀ (τ : Sg) (w : Value), Fr SMk τ0 τ → MWv n T 0 i 122 τ → τ.1 102 32 = zI i → ∃ τ', f_M_readsWives_5 (d2 + 3) w τ = rI (bz (decide (v = 0))) τ' ∧ Fr SMk τ0 τ' ∧ (v < 0 → τ'.1 102 10 = zI v) ∧ (v = 0 → τ'.1 102 32 = zI k ∧ τ'.1 102 8 = zI (k + 1) ∧ τ'.1 102 9 = zI n ∧ MT 0 n T τ' ∧ ∀ x, 0 ≤ x → x < k → τ'.1 122 x.toNat = zI (T x - 97))) := by
  have hs1 := hq.s1
  intro b
  induction b with
  | zero =>
    intro i hi i0 i1 hn
    exfalso
    obtain ⟨a, c, ac, hc, e⟩ := php 6 (fun j => T (0 + (j : Int)) - 97) fun j hj => by
      have := hn.1 (j : Int) (by omega) (by omega)
      show 0 ≤ T (0 + (j : Int)) - 97 ∧ T (0 + (j : Int)) - 97 < ((6 : Nat) : Int)
      omega
    have e : T (0 + (a : Int)) - 97 = T (0 + (c : Int)) - 97 := e
    exact hn.2 (a : Int) (c : Int) (by omega) (by omega) (by omega) (by omega)
  | succ b ih =>
    intro i hi i0 i1 hn
    have i6 : i ≤ 6 := by omega
    simp only [CWv, MWv, SeenN, Int.zero_add] at *
    have hc : ∃ c, c = (if i < n then T i else -1) ∧ -1 ≤ c ∧ c < 256 := by
      refine ⟨_, rfl, ?_⟩
      by_cases q : i < n
      · rw [if_pos q]; have := tb i i0 q; omega
      · rw [if_neg q]; omega
    obtain ⟨c, hc, c0, c1⟩ := hc
    have nowC : ∀ σ : Sg, CT 0 n T σ → σ.1 5 4 = zI i → ∀ d, f_Tape_now (d + 1) σ = rI (zI c) σ := fun σ h1 h2 d => by rw [nowE_sp h1 h2 (by omega) i0 i1, hc]
    have hereM : ∀ τ : Sg, MT 0 n T τ → τ.1 102 8 = zI i → τ.1 102 9 = zI n → f_M_here (d2 + 3) τ = rI (zI c) τ := fun τ h1 h2 h3 => by
      rw [here_sp (i := i) h1 (by rw [Int.zero_add]; exact h2) (by rw [Int.zero_add]; exact h3) (by decide) (by omega) i0 i1, hc]
    have e47 : (zI c = 47) = (c = 47) := by rw [show (47 : Int32) = zI 47 from zI_lit 47]; exact zI_eq (by omega) (by decide)
    have i2 : (zI i < 2) = (i < 2) := by rw [show (2 : Int32) = zI 2 from zI_lit 2]; exact zI_le (by omega) (by decide)
    have hgM : ∀ τ : Sg, (∀ x, 0 ≤ x → x < i → τ.1 122 x.toNat = zI (T x - 97)) → ∀ x, 0 ≤ x → x < i → τ.1 122 x.toNat = zI (T x - 97) ∧ 0 ≤ T x - 97 ∧ T x - 97 < 6 := fun τ h x x0 x1 => by
      have := hn.1 x x0 x1
      rw [Int.zero_add] at this
      exact ⟨h x x0 x1, by omega, by omega⟩
    by_cases sl : c = 47
    · have hin : i < n := by
        by_cases u : i < n
        · exact u
        · rw [if_neg u] at hc; omega
      have nC : ∀ (σ : Sg) (s : Int32) (w : Value), CT 0 n T σ → σ.1 5 4 = zI i → f_Rule_readWives_4 (d + 2) q s (zI i) w σ = if i < 2 then rI (zI (-1000 - i)) σ else f_Rule_readWives_125 (d + 2) q (.int s) (.int (zI i)) (zI 0) (sI σ q 0 (zI i)) := fun σ s w h1 h2 => by
        rw [f_Rule_readWives_4_eq, h2, h1.2.1, if_pos (by rw [zI_le (by omega) (by omega)]; exact hin), nowC σ h1 h2, cI_rI, if_pos (by rw [e47]; exact sl), nowC σ h1 h2, cI_rI, if_pos (by rw [e47]; exact sl), show (1 : Int32) = zI 1 from zI_lit 1, tfaultZ h2, cI_rI, show (-1000 * 1 - i : Int) = -1000 - i by omega, pfI_of hq.s0, zI_0]
        by_cases z : i < 2
        · rw [if_pos (by rw [i2]; exact z), if_pos z]
        · rw [if_neg (by rw [i2]; exact z), if_neg z]
      have nM : ∀ (τ : Sg) (w : Value), MT 0 n T τ → τ.1 102 8 = zI i → τ.1 102 9 = zI n → τ.1 102 32 = zI i → f_M_readsWives_5 (d2 + 3) w τ = if i < 2 then rI (zI 0) (sI τ 102 10 (zI (-1000 - i))) else f_M_readsWives_84 (d2 + 3) (zI 0) (sI τ 102 8 (zI (i + 1))) := fun τ w h1 h2 h3 h4 => by
        rw [f_M_readsWives_5_eq, hereM τ h1 h2 h3, cI_rI, if_pos (by rw [e47]; exact sl), h4, h2, show (1 : Int32) = zI 1 from zI_lit 1, wrongAt_sp, cI_rI, rZ_z0, show (-1000 * 1 - i : Int) = -1000 - i by omega, zI_add, zI_0]
        by_cases z : i < 2
        · rw [if_pos (by rw [i2]; exact z), if_pos z]
        · rw [if_neg (by rw [i2]; exact z), if_neg z]
      by_cases z : i < 2
      · refine ⟨-1000 - i, 0, by omega, Or.inl (by omega), fun σ s w K hC _ => ⟨σ, by rw [nC σ s w hC.1 hC.2.1, if_pos z], K, fun e => by omega⟩, fun τ w K hM h32 => ⟨sI τ 102 10 (zI (-1000 - i)), ?_, K.sI _ rfl, fun _ => sI_same _ _ _ _, fun e => by omega⟩⟩
        rw [nM τ w hM.1 hM.2.1 hM.2.2.1 h32, if_pos z, decide_eq_false (by omega), bz_ff]
      · -- do all wives bear a name of the rule
        have chk : ∀ (k : Nat) (x : Int), x + k = i → 0 ≤ x → (∀ y, 0 ≤ y → y < x → T y - 97 < i) → ∃ v : Int, -100000 < v ∧ (v < 0 ∨ v = 0 ∧ ∀ y, 0 ≤ y → y < i → T y - 97 < i) ∧
            (∀ (σ : Sg) (w1 w2 : Value), σ.1 q 0 = zI i → σ.1 5 4 = zI i → (∀ x, 0 ≤ x → x < i → σ.1 (q + 1) x.toNat = zI (T x - 97)) → f_Rule_readWives_125 (d + 2) q w1 w2 (zI x) σ = rI (zI v) (if v = 0 then sI σ 5 4 (zI (i + 1)) else σ)) ∧
            (∀ τ : Sg, τ.1 102 32 = zI i → (∀ x, 0 ≤ x → x < i → τ.1 122 x.toNat = zI (T x - 97)) → f_M_readsWives_84 (d2 + 3) (zI x) τ = rI (bz (decide (v = 0))) (if v = 0 then τ else sI τ 102 10 (zI v))) := by
          intro k
          induction k with
          | zero =>
            intro x hx x0 ha
            have : x = i := by omega
            subst this
            refine ⟨0, by decide, Or.inr ⟨rfl, ha⟩, fun σ w1 w2 h1 h2 h3 => ?_, fun τ h1 h2 => ?_⟩
            · rw [f_Rule_readWives_125_eq, gfI_of hq.s0, h1, if_neg Int32.lt_irrefl, if_pos rfl, h2, show (1 : Int32) = zI 1 from zI_lit 1, zI_add]; rfl
            · rw [f_M_readsWives_84_eq, h1, if_neg Int32.lt_irrefl, if_pos rfl]; rfl
          | succ k ihk =>
            intro x hx x0 ha
            have x1 : x < i := by omega
            have bx := hn.1 x x0 x1
            rw [Int.zero_add] at bx
            have cN : ∀ (σ : Sg) (w1 w2 : Value), σ.1 q 0 = zI i → (∀ x, 0 ≤ x → x < i → σ.1 (q + 1) x.toNat = zI (T x - 97)) → f_Rule_readWives_125 (d + 2) q w1 w2 (zI x) σ = if T x - 97 < i then f_Rule_readWives_125 (d + 2) q w1 (nlg w2) (zI (x + 1)) σ else rI (zI (-3000 - x)) σ := fun σ w1 w2 h1 h3 => by
              rw [f_Rule_readWives_125_eq, gfI_of hq.s0, h1, if_pos (by rw [zI_le (by omega) (by omega)]; exact x1), gfS_of hq.s0, ofs_6_1, ldi_of hs1 x0 (by omega) (by omega), h3 x x0 x1, gfI_of hq.s0, h1, show (1 : Int32) = zI 1 from zI_lit 1, zI_add, f_N_fault_eq, show (-1000 : Int32) = zI (-1000) from rfl, show (3 : Int32) = zI 3 from zI_lit 3, zI_mul, zI_sub, cI_rI, show (-1000 * 3 - x : Int) = -3000 - x by omega]
              by_cases u : T x - 97 < i
              · rw [if_pos (by rw [zI_le (by omega) (by omega)]; exact u), if_pos u]
              · rw [if_neg (by rw [zI_le (by omega) (by omega)]; exact u), if_neg u]
            have cM : ∀ τ : Sg, τ.1 102 32 = zI i → (∀ x, 0 ≤ x → x < i → τ.1 122 x.toNat = zI (T x - 97)) → f_M_readsWives_84 (d2 + 3) (zI x) τ = if T x - 97 < i then f_M_readsWives_84 (d2 + 3) (zI (x + 1)) τ else rI (zI 0) (sI τ 102 10 (zI (-3000 - x))) := fun τ h1 h2 => by
              rw [f_M_readsWives_84_eq, h1, if_pos (by rw [zI_le (by omega) (by omega)]; exact x1), bnd_zI x0 (by omega) (by omega), ix_zI x0 (by omega), h2 x x0 x1, show (1 : Int32) = zI 1 from zI_lit 1, zI_add, show (3 : Int32) = zI 3 from zI_lit 3, wrongAt_sp, cI_rI, rZ_z0, show (-1000 * 3 - x : Int) = -3000 - x by omega]
              by_cases u : T x - 97 < i
              · rw [if_pos (by rw [zI_le (by omega) (by omega)]; exact u), if_pos u]
              · rw [if_neg (by rw [zI_le (by omega) (by omega)]; exact u), if_neg u]
            by_cases u : T x - 97 < i
            · obtain ⟨v, v0, v1, v2, v3⟩ := ihk (x + 1) (by omega) (by omega) fun y y0 y1 => by
                by_cases e : y = x
                · subst e; exact u
                · exact ha y y0 (by omega)
              refine ⟨v, v0, v1, fun σ w1 w2 h1 h2 h3 => ?_, fun τ h1 h2 => ?_⟩
              · rw [cN σ w1 w2 h1 h3, if_pos u]; exact v2 σ _ _ h1 h2 h3
              · rw [cM τ h1 h2, if_pos u]; exact v3 τ h1 h2
            · refine ⟨-3000 - x, by omega, Or.inl (by omega), fun σ w1 w2 h1 h2 h3 => ?_, fun τ h1 h2 => ?_⟩
              · rw [cN σ w1 w2 h1 h3, if_neg u, if_neg (by omega)]
              · rw [cM τ h1 h2, if_neg u, if_neg (by omega), decide_eq_false (by omega), bz_ff]
        obtain ⟨v, v0, v1, v2, v3⟩ := chk i.toNat 0 (by omega) (by decide) fun y y0 y1 => by omega
        refine ⟨v, i, v0, ?_, fun σ s w K hC _ => ?_, fun τ w K hM h32 => ?_⟩
        · rcases v1 with v1 | ⟨v1, v1'⟩
          · exact Or.inl v1
          · exact Or.inr ⟨v1, by omega, i6, hin, hn, v1'⟩
        · have hw : ∀ x, 0 ≤ x → x < i → (sI σ q 0 (zI i)).1 (q + 1) x.toNat = zI (T x - 97) := fun x x0 x1 => (sI_row _ _ _ _ _ (by omega)).trans (hC.2.2 x x0 x1)
          have h5 : ∀ k, (sI σ q 0 (zI i)).1 5 k = σ.1 5 k := fun k => sI_row _ _ _ _ _ (by rcases hq with rfl | rfl <;> decide)
          have key := v2 (sI σ q 0 (zI i)) (.int s) (.int (zI i)) (sI_same _ _ _ _) ((h5 4).trans hC.2.1) hw
          refine ⟨_, by rw [nC σ s w hC.1 hC.2.1, if_neg z]; exact key, ?_, fun e => ?_⟩
          · by_cases e : v = 0
            · rw [if_pos e]; exact (K.sI _ (by simp [SRk])).sI _ (by simp [SRk])
            · rw [if_neg e]; exact K.sI _ (by simp [SRk])
          · rw [if_pos e]
            have q5 : q ≠ 5 ∧ q + 1 ≠ 5 ∧ q ≠ 6 := by rcases hq with rfl | rfl <;> decide
            refine ⟨?_, sI_same _ _ _ _, ⟨?_, ?_, fun j j0 j1 => ?_⟩, fun x x0 x1 => ?_⟩
            · rw [sI_row _ _ _ _ _ q5.1, sI_same]
            · rw [sI_slot _ _ _ _ (by decide), h5]; exact hC.1.1
            · rw [sI_slot _ _ _ _ (by decide), h5]; exact hC.1.2.1
            · rw [sI_row _ _ _ _ _ (by decide), sI_row _ _ _ _ _ (Ne.symm q5.2.2)]; exact hC.1.2.2 j j0 j1
            · rw [sI_row _ _ _ _ _ q5.2.1]; exact hw x x0 x1
        · have key := v3 (sI τ 102 8 (zI (i + 1))) ((sI_slot _ _ _ _ (by decide)).trans h32) fun x x0 x1 => (sI_row _ _ _ _ _ (by decide)).trans (hM.2.2.2 x x0 x1)
          refine ⟨_, by rw [nM τ w hM.1 hM.2.1 hM.2.2.1 h32, if_neg z]; exact key, ?_, fun e => ?_, fun e => ?_⟩
          · by_cases e : v = 0
            · rw [if_pos e]; exact K.sI _ rfl
            · rw [if_neg e]; exact (K.sI _ rfl).sI _ rfl
          · rw [if_neg (by omega)]; exact sI_same _ _ _ _
          · rw [if_pos e]
            refine ⟨(sI_slot _ _ _ _ (by decide)).trans h32, sI_same _ _ _ _, (sI_slot _ _ _ _ (by decide)).trans hM.2.2.1, fun j j0 j1 => by rw [sI_row _ _ _ _ _ (by decide)]; exact hM.1 j j0 j1, fun x x0 x1 => (sI_row _ _ _ _ _ (by decide)).trans (hM.2.2.2 x x0 x1)⟩
    · have RN := fun τ : Sg => fun (h1 : MT 0 n T τ) (h2 : τ.1 102 8 = zI i) (h3 : τ.1 102 9 = zI n) (h4 : ∀ x, 0 ≤ x → x < i → τ.1 122 x.toNat = zI (T x - 97)) => readsName_sp (a := 122) rfl (d := d2 + 1) (g := fun x => T x - 97) h1 tb (by omega) h2 h3 i0 i1 i0 i6 (hgM τ h4)
      have mst : ∀ (τ : Sg) (w : Value), MT 0 n T τ → τ.1 102 8 = zI i → τ.1 102 9 = zI n → τ.1 102 32 = zI i → f_M_readsWives_5 (d2 + 3) w τ = cI (f_M_readsName (d2 + 3) 122 (zI i) τ) fun v7 σ6 => if v7 = 0 then rZ 0 σ6 else f_M_readsWives_5 (d2 + 3) w (sI (sI σ6 102 32 (σ6.1 102 32 + 1)) 102 8 ((sI σ6 102 32 (σ6.1 102 32 + 1)).1 102 8 + 1)) := fun τ w h1 h2 h3 h4 => by
        rw [f_M_readsWives_5_eq, hereM τ h1 h2 h3, cI_rI, if_neg (by rw [e47]; exact sl), h4]
      by_cases ok : i < n ∧ 97 ≤ T i ∧ T i ≤ 102 ∧ i < 6
      · obtain ⟨ok1, ok2, ok3, ok4⟩ := id ok
        rw [if_pos ok1] at hc
        have cst : ∀ (σ : Sg) (s : Int32) (w : Value), CT 0 n T σ → σ.1 5 4 = zI i → f_Rule_readWives_4 (d + 2) q s (zI i) w σ = if gb s (T i - 97) = true then rI (zI (-6000 - i)) σ else f_Rule_readWives_4 (d + 2) q (s ||| (zI 1 <<< (zI (T i - 97) &&& zI 31))) (zI (i + 1)) (.int (zI (T i - 97))) (sI (sI σ (q + 1) i.toNat (zI (T i - 97))) 5 4 (zI (i + 1))) := fun σ s w h1 h2 => by
          have h54 : (sI σ (q + 1) i.toNat (zI (T i - 97))).1 5 4 = zI i := (sI_row _ _ _ _ _ (by rcases hq with rfl | rfl <;> decide)).trans h2
          rw [f_Rule_readWives_4_eq, h2, h1.2.1, if_pos (by rw [zI_le (by omega) (by omega)]; exact ok1), nowC σ h1 h2, cI_rI, if_neg (by rw [e47]; exact sl), nowC σ h1 h2, cI_rI, nameOf_sp c0 c1, cI_rI, if_pos (show 97 ≤ c ∧ c ≤ 102 by omega), zI_0, if_neg (by rw [zI_le (by omega) (by decide)]; omega), if_neg (by rw [show (6 : Int32) = zI 6 from zI_lit 6, zI_eq (by omega) (by decide)]; omega), show (31 : Int32) = zI 31 from zI_lit 31, show (1 : Int32) = zI 1 from zI_lit 1, hc, sh_bz s (by omega) (by omega), gfS_of hq.s0, ofs_6_1, stI_of hs1 i0 (by omega) (by omega), show (6 : Int32) = zI 6 from zI_lit 6, tfaultZ h2, cI_rI, show (-1000 * 6 - i : Int) = -6000 - i by omega]
          dsimp only
          rw [h54, zI_add]
          cases z : gb s (T i - 97) with
          | true => rw [bz_tt, if_neg (by decide), if_pos rfl]
          | false => rw [bz_ff, if_pos (by decide), if_neg (by decide)]
        by_cases dup : ∃ x, 0 ≤ x ∧ x < i ∧ T x - 97 = T i - 97
        · refine ⟨-6000 - i, 0, by omega, Or.inl (by omega), fun σ s w K hC hs => ⟨σ, ?_, K, fun e => by omega⟩, fun τ w K hM h32 => ⟨sI τ 102 10 (zI (-6000 - i)), ?_, K.sI _ rfl, fun _ => sI_same _ _ _ _, fun e => by omega⟩⟩
          · rw [cst σ s w hC.1 hC.2.1, if_pos ((hs _ (by omega) (by omega)).mpr dup)]
          · rw [mst τ w hM.1 hM.2.1 hM.2.2.1 h32, (RN τ hM.1 hM.2.1 hM.2.2.1 hM.2.2.2).2.1 ok dup, cI_rI, if_pos (by decide), decide_eq_false (by omega), bz_ff, rZ_0]
        · have hn1 : NmsAt T 0 (i + 1) := hn.next (by rw [Int.zero_add]; exact ok2) (by rw [Int.zero_add]; exact ok3) (by simp only [Int.zero_add]; exact dup)
          obtain ⟨v, k, v0, v1, v2, v3⟩ := ih (i + 1) (by omega) (by omega) (by omega) hn1
          refine ⟨v, k, v0, v1, fun σ s w K hC hs => ?_, fun τ w K hM h32 => ?_⟩
          · have q5 : q + 1 ≠ 5 ∧ q + 1 ≠ 6 := by rcases hq with rfl | rfl <;> decide
            have hC' : CT 0 n T (sI (sI σ (q + 1) i.toNat (zI (T i - 97))) 5 4 (zI (i + 1))) ∧ (sI (sI σ (q + 1) i.toNat (zI (T i - 97))) 5 4 (zI (i + 1))).1 5 4 = zI (i + 1) ∧ ∀ x, 0 ≤ x → x < i + 1 → (sI (sI σ (q + 1) i.toNat (zI (T i - 97))) 5 4 (zI (i + 1))).1 (q + 1) x.toNat = zI (T x - 97) := by
              refine ⟨⟨?_, ?_, fun j j0 j1 => ?_⟩, sI_same _ _ _ _, fun x x0 x1 => ?_⟩
              · rw [sI_slot _ _ _ _ (by decide), sI_row _ _ _ _ _ (Ne.symm q5.1)]; exact hC.1.1
              · rw [sI_slot _ _ _ _ (by decide), sI_row _ _ _ _ _ (Ne.symm q5.1)]; exact hC.1.2.1
              · rw [sI_row _ _ _ _ _ (by decide), sI_row _ _ _ _ _ (Ne.symm q5.2)]; exact hC.1.2.2 j j0 j1
              · rw [sI_row _ _ _ _ _ q5.1]
                by_cases e : x = i
                · subst e; exact sI_same _ _ _ _
                · rw [sI_slot _ _ _ _ (by omega)]; exact hC.2.2 x x0 (by omega)
            have hs' := SeenN.next (T := T) (j := 0) (i := i) (s := s) (by simp only [SeenN, Int.zero_add]; exact hs) i0 (by rw [Int.zero_add]; exact ok2) (by rw [Int.zero_add]; exact ok3)
            simp only [SeenN, Int.zero_add] at hs'
            obtain ⟨σ', a1, a2⟩ := v2 (sI (sI σ (q + 1) i.toNat (zI (T i - 97))) 5 4 (zI (i + 1))) (s ||| (zI 1 <<< (zI (T i - 97) &&& zI 31))) (.int (zI (T i - 97))) ((K.sI _ (by simp [SRk])).sI _ (by simp [SRk])) hC' hs'
            refine ⟨σ', ?_, a2⟩
            rw [cst σ s w hC.1 hC.2.1, if_neg (fun z => dup ((hs _ (by omega) (by omega)).mp z))]
            exact a1
          · have h32' : (sI τ 122 i.toNat (zI (T i - 97))).1 102 32 = zI i := (sI_row _ _ _ _ _ (by decide)).trans h32
            have h8' : (sI (sI τ 122 i.toNat (zI (T i - 97))) 102 32 (zI (i + 1))).1 102 8 = zI i := (sI_slot _ _ _ _ (by decide)).trans ((sI_row _ _ _ _ _ (by decide)).trans hM.2.1)
            have hM' : MT 0 n T (sI (sI (sI τ 122 i.toNat (zI (T i - 97))) 102 32 (zI (i + 1))) 102 8 (zI (i + 1))) ∧ (sI (sI (sI τ 122 i.toNat (zI (T i - 97))) 102 32 (zI (i + 1))) 102 8 (zI (i + 1))).1 102 8 = zI (i + 1) ∧ (sI (sI (sI τ 122 i.toNat (zI (T i - 97))) 102 32 (zI (i + 1))) 102 8 (zI (i + 1))).1 102 9 = zI n ∧ ∀ x, 0 ≤ x → x < i + 1 → (sI (sI (sI τ 122 i.toNat (zI (T i - 97))) 102 32 (zI (i + 1))) 102 8 (zI (i + 1))).1 122 x.toNat = zI (T x - 97) := by
              refine ⟨fun j j0 j1 => ?_, sI_same _ _ _ _, ?_, fun x x0 x1 => ?_⟩
              · rw [sI_row _ _ _ _ _ (by decide), sI_row _ _ _ _ _ (by decide), sI_row _ _ _ _ _ (by decide)]; exact hM.1 j j0 j1
              · rw [sI_slot _ _ _ _ (by decide), sI_slot _ _ _ _ (by decide), sI_row _ _ _ _ _ (by decide)]; exact hM.2.2.1
              · rw [sI_row _ _ _ _ _ (by decide), sI_row _ _ _ _ _ (by decide)]
                by_cases e : x = i
                · subst e; exact sI_same _ _ _ _
                · rw [sI_slot _ _ _ _ (by omega)]; exact hM.2.2.2 x x0 (by omega)
            obtain ⟨τ', a1, a2⟩ := v3 (sI (sI (sI τ 122 i.toNat (zI (T i - 97))) 102 32 (zI (i + 1))) 102 8 (zI (i + 1))) w (((K.sI _ rfl).sI _ rfl).sI _ rfl) hM' ((sI_slot _ _ _ _ (by decide)).trans (sI_same _ _ _ _))
            refine ⟨τ', ?_, a2⟩
            rw [mst τ w hM.1 hM.2.1 hM.2.2.1 h32, (RN τ hM.1 hM.2.1 hM.2.2.1 hM.2.2.2).2.2 ok dup, cI_rI, if_neg (by decide), h32', show (1 : Int32) = zI 1 from zI_lit 1, zI_add, h8', zI_add]
            exact a1
      · refine ⟨-1000 - i, 0, by omega, Or.inl (by omega), fun σ s w K hC hs => ⟨σ, ?_, K, fun e => by omega⟩, fun τ w K hM h32 => ⟨sI τ 102 10 (zI (-1000 - i)), ?_, K.sI _ rfl, fun _ => sI_same _ _ _ _, fun e => by omega⟩⟩
        · have tf : ∀ d', cI (f_Tape_fault (d' + 1) 1 σ) (fun v σ => rI v σ) = rI (zI (-1000 - i)) σ := fun d' => by
            rw [show (1 : Int32) = zI 1 from zI_lit 1, tfaultZ hC.2.1, cI_rI, show (-1000 * 1 - i : Int) = -1000 - i by omega]
          rw [f_Rule_readWives_4_eq, hC.2.1, hC.1.2.1]
          by_cases u : i < n
          · rw [if_pos u] at hc
            rw [if_pos (by rw [zI_le (by omega) (by omega)]; exact u), nowC σ hC.1 hC.2.1, cI_rI, if_neg (by rw [e47]; exact sl), nowC σ hC.1 hC.2.1, cI_rI, nameOf_sp c0 c1, cI_rI]
            by_cases w : 97 ≤ c ∧ c ≤ 102
            · rw [if_pos w, zI_0, if_neg (by rw [zI_le (by omega) (by decide)]; omega), if_pos (by rw [show (6 : Int32) = zI 6 from zI_lit 6, zI_eq (by omega) (by decide)]; omega)]
              exact tf _
            · rw [if_neg w, if_pos (by decide)]
              exact tf _
          · rw [if_neg (by rw [zI_le (by omega) (by omega)]; exact u), nowC σ hC.1 hC.2.1, cI_rI, if_neg (by rw [e47]; exact sl)]
            exact tf _
        · rw [mst τ w hM.1 hM.2.1 hM.2.2.1 h32, (RN τ hM.1 hM.2.1 hM.2.2.1 hM.2.2.2).1 ok, cI_rI, if_pos (by decide), decide_eq_false (by omega), bz_ff, rZ_0]
