/-! both read a word of the tape -/
def SNw (a k : Nat) : Bool := SWr 49 a k || a == 5
theorem SNw.th {σ τ : Sg} (F : Fr SNw σ τ) : Fr STh σ τ := F.mono fun a k e => by
  simp only [STh, Bool.or_eq_false_iff] at e
  simp only [SNw, Bool.or_eq_false_iff]
  exact ⟨e.1.1.1, e.1.2⟩
theorem wordBoth {σ : Sg} {r p l : Nat} (h : Inv r p l σ) {n s : Int} (qn : 1 ≤ n ∧ n ≤ 40 ∧ n ≤ rd σ 5 1) (sx : s = 0 ∨ s = 1) (d d2 d3 : Nat) : ∃ σ1 σ2, f_Tape_take (d + 1) (zI 0) (zI n) σ = rV σ1 ∧ σ1.2.2 = σ.2.2 ∧ f_Word_read (d2 + 4) 49 (zI s) σ1 = rI (zI (wRes (rd σ 6) n s)) σ2 ∧ Fr SNw σ σ2 ∧ rd σ2 5 1 = 0 ∧ (-10000 < wRes (rd σ 6) n s ∧ wRes (rd σ 6) n s ≤ 0) ∧ ∀ τ : Sg, (∀ k, τ.1 108 k = σ.1 108 k) → ∃ σ3, Fr SMw τ σ3 ∧ f_M_readsWord (d3 + 4) (zI 0) (zI n) (zI s) τ = rI (zI (wRes (rd σ 6) n s)) σ3 ∧ (wRes (rd σ 6) n s = 0 → ∃ W, CWo 49 W σ2 ∧ WOk W ∧ 1 ≤ W.size ∧ MWo W σ3 ∧ wRun (rd σ 6) n n.toNat 0 W0 = Sum.inr W) ∧ ∃ z : Int, σ3.1 102 38 = zI z ∧ 0 ≤ z ∧ z ≤ 24 := by
  obtain ⟨t0, t1, t2, t3⟩ := h.2.1
  have tb : ∀ j, 0 ≤ j → j < n → 0 ≤ rd σ 6 j ∧ rd σ 6 j < 256 := fun j j0 j1 => by have := t3 j j0 (by omega); omega
  have et := take_sp (σ := σ) (d := d) (f := 0) (n := n)
  have F1 : Fr (fun x _ => x == 5) σ (sI (sI (sI (sI σ 5 2 (zI 0)) 5 3 (zI n)) 5 4 (zI 0)) 5 1 (zI 0)) := ((((Fr.rf _ σ).sI _ rfl).sI _ rfl).sI _ rfl).sI _ rfl
  have x1 : (sI (sI (sI (sI σ 5 2 (zI 0)) 5 3 (zI n)) 5 4 (zI 0)) 5 1 (zI 0)).1 5 1 = zI 0 := rfl
  have hC : CT 0 n (rd σ 6) (sI (sI (sI (sI σ 5 2 (zI 0)) 5 3 (zI n)) 5 4 (zI 0)) 5 1 (zI 0)) := ⟨rfl, rfl, fun j j0 j1 => by
    rw [Int.zero_add]
    show σ.1 6 j.toNat = _
    rw [rd_k, toNat_c j0]⟩
  have x4 : (sI (sI (sI (sI σ 5 2 (zI 0)) 5 3 (zI n)) 5 4 (zI 0)) 5 1 (zI 0)).1 5 4 = zI 0 := rfl
  generalize sI (sI (sI (sI σ 5 2 (zI 0)) 5 3 (zI n)) 5 4 (zI 0)) 5 1 (zI 0) = σ1 at F1 x1 x4 et hC
  obtain ⟨σ2, F2, eN, bd, hN⟩ := wordN (a := 49) (Or.inl rfl) (d := d2) (s := s) hC x4 (by decide) (by omega) (by omega) tb sx
  have F02 : Fr SNw σ σ2 := FrU F1 F2 (U := SNw) fun a k e => by
    simp only [SNw, Bool.or_eq_false_iff] at e
    exact ⟨e.2, e.1⟩
  refine ⟨σ1, σ2, et, F1.1, eN, F02, ?_, bd, fun τ hτ => ?_⟩
  · have : σ2.1 5 1 = zI 0 := (F2.2 _ _ rfl).trans x1
    unfold rd
    rw [show (1 : Int).toNat = 1 from rfl, this]; rfl
  have hT : MT 0 n (rd σ 6) τ := fun j j0 j1 => by
    rw [Int.zero_add, hτ]; exact (t3 j j0 (by omega)).2.2
  have nz : ∀ u, wRun (rd σ 6) n n.toNat 0 W0 = Sum.inl u → u ≠ 0 := fun u e => by
    obtain ⟨_, _, hh, _⟩ := wordRead_sp (a := 49) (Or.inl rfl) (d := d2) (s := s) hC x4 (by decide) (by omega) (by omega) tb
    have := (hh u e).1
    omega
  obtain ⟨σ3, F3, eM, hM, hz⟩ := wordM (d := d3) (s := s) hT (by decide) (by omega) (by omega) tb sx nz
  refine ⟨σ3, F3, eM, fun z => ?_, hz⟩
  obtain ⟨W, w1, w2, w3⟩ := hN z
  obtain ⟨W', v1, v2, v3⟩ := hM z
  obtain rfl : W = W' := Sum.inr.inj (w1.symm.trans v1)
  exact ⟨W, w2, w3, wRun0_size w1, v2, w1⟩
/-! what a word does with names -/
def fOf (σ : Sg) (r : Nat) (W : WS) (s : Int) : Int → Int := ldF (gOf σ r) W.st W.size.toNat 0 s
theorem fOf_on {σ : Sg} {r : Nat} {n : Int} (h : RuleAt σ r n) (W : WS) (s : Int) : onN n (fOf σ r W s) := ldF_inj (fun k s => gOf_on h k s) _ _ _
theorem unch_sp {σ : Sg} {a r d : Nat} {n : Int} {W : WS} (ha : isW a) (c : CWo a W σ) (ok : WOk W) (hr : RuleAt σ r n) (n0 : 0 ≤ n) {s : Int} (s01 : s = 0 ∨ s = 1) : f_Word_unchanged (d + 3) a r (zI s) σ = rI (zI (cnt (fun x => decide (fOf σ r W s x = x)) n.toNat)) σ := by
  have n6 := hr.2.2.1
  have e0 : σ.1 r 0 = zI n := by rw [rd_k]; exact congrArg zI hr.2.1
  rw [f_Word_unchanged_eq, zI_0]
  refine zloop n (fun i (a' : Int) => f_Word_unchanged_5 (d + 2) a r (zI s) (zI a') (zI i) σ) (fun i a' => 0 ≤ i ∧ a' = cnt (fun x => decide (fOf σ r W s x = x)) i.toNat) (fun o => o = rI (zI (cnt (fun x => decide (fOf σ r W s x = x)) n.toNat)) σ) ?_ ?_ 0 0 n0 ⟨by decide, rfl⟩
  · rintro i a' hi ⟨h0, rfl⟩
    refine Or.inr ⟨cnt (fun x => decide (fOf σ r W s x = x)) (i + 1).toNat, ?_, by omega, rfl⟩
    have g := (fOf_on hr W s).1 i h0 hi
    have b := cnt_nn (fun x => decide (fOf σ r W s x = x)) i.toNat
    show f_Word_unchanged_5 _ _ _ _ _ _ σ = _
    rw [f_Word_unchanged_5_eq, gfI_of hr.1.s0, e0, if_pos (by rw [zI_le (by omega) (by omega)]; exact hi), gdK_of ha.s0, lead_sp ha c ok hr h0 hi s01, cI_rI]
    rw [show (i + 1).toNat = i.toNat + 1 by omega, cnt_s, show ((i.toNat : Nat) : Int) = i by omega, show (1 : Int32) = zI 1 from zI_lit 1, zI_add, zI_add]
    show (if zI (fOf σ r W s i) = zI i then _ else _) = _
    by_cases q : fOf σ r W s i = i
    · rw [if_pos (congrArg zI q), if_pos (decide_eq_true q)]
    · rw [if_neg (by rw [zI_eq (by omega) (by omega)]; exact q), if_neg (by simpa using q), Int.add_zero]
  · rintro a' ⟨-, rfl⟩
    show f_Word_unchanged_5 _ _ _ _ _ _ σ = _
    rw [f_Word_unchanged_5_eq, gfI_of hr.1.s0, e0, if_neg Int32.lt_irrefl]
theorem fixed_sp {σ : Sg} {d : Nat} {n : Int} {W : WS} {A B C M : Int → Int} (c : MWo W σ) (ok : WOk W) (hr : MR4 σ n A B C M) (n0 : 0 ≤ n ∧ n ≤ 6) (e0 : σ.1 102 5 = zI n) (hG : ∀ k s x, 0 ≤ x → x < n → 0 ≤ goF A B C M k s x ∧ goF A B C M k s x < n) {s : Int} (s01 : s = 0 ∨ s = 1) {f : Int → Int} (hf : f = ldF (goF A B C M) W.st W.size.toNat 0 s) : f_M_fixedBy (d + 4) (zI s) σ = rI (zI (cnt (fun x => decide (f x = x)) n.toNat)) σ := by
  rw [f_M_fixedBy_eq, zI_0]
  refine zloop n (fun i (a' : Int) => f_M_fixedBy_4 (d + 3) (zI s) (zI a') (zI i) σ) (fun i a' => 0 ≤ i ∧ a' = cnt (fun x => decide (f x = x)) i.toNat) (fun o => o = rI (zI (cnt (fun x => decide (f x = x)) n.toNat)) σ) ?_ ?_ 0 0 n0.1 ⟨by decide, rfl⟩
  · rintro i a' hi ⟨h0, rfl⟩
    refine Or.inr ⟨cnt (fun x => decide (f x = x)) (i + 1).toNat, ?_, by omega, rfl⟩
    have g : 0 ≤ f i ∧ f i < n := by rw [hf]; exact ldF_lt hG _ _ _ _ h0 hi
    show f_M_fixedBy_4 _ _ _ _ σ = _
    rw [f_M_fixedBy_4_eq, e0, if_pos (by rw [zI_le (by omega) (by omega)]; exact hi), leadM_sp c ok hr hG h0 hi s01, cI_rI, ← hf]
    rw [show (i + 1).toNat = i.toNat + 1 by omega, cnt_s, show ((i.toNat : Nat) : Int) = i by omega, show (1 : Int32) = zI 1 from zI_lit 1, zI_add, zI_add]
    by_cases q : f i = i
    · rw [if_pos (congrArg zI q), if_pos (decide_eq_true q)]
    · rw [if_neg (by rw [zI_eq (by omega) (by omega)]; exact q), if_neg (by simpa using q), Int.add_zero]
  · rintro a' ⟨-, rfl⟩
    show f_M_fixedBy_4 _ _ _ _ σ = _
    rw [f_M_fixedBy_4_eq, e0, if_neg Int32.lt_irrefl]
/-- from which names it is lawful -/
def lwF (W H f : Int → Int) (e s : Int) (x : Int) : Bool := decide (e ≠ s ∧ f x = spF W H s x)
theorem isLawful_sp {σ : Sg} {a r d : Nat} {n : Int} {W : WS} (ha : isW a) (c : CWo a W σ) (ok : WOk W) (w1 : 1 ≤ W.size) (hr : RuleAt σ r n) {s x : Int} (s01 : s = 0 ∨ s = 1) (h0 : 0 ≤ x) (h1 : x < n) : f_Word_isLawful (d + 3) a r (zI x) (zI s) σ = rI (bz (lwF (rd σ (r + 1)) (rd σ (r + 2)) (fOf σ r W s) (W.st (W.size - 1) % 2) s x)) σ := by
  have n6 := hr.2.2.1
  have g := (fOf_on hr W s).1 x h0 h1
  have hsp : 0 ≤ spF (rd σ (r + 1)) (rd σ (r + 2)) s x ∧ spF (rd σ (r + 1)) (rd σ (r + 2)) s x < n := by
    obtain ⟨⟨a1, a2, a3, a4, -⟩, -⟩ := hr.2.2.2 x h0 h1
    unfold spF; split <;> omega
  have hm : 0 ≤ W.st (W.size - 1) % 2 ∧ W.st (W.size - 1) % 2 < 2 := by omega
  rw [f_Word_isLawful_eq, gdK_of ha.s0, sortEnd_sp ha c ok w1, cI_rI]
  unfold lwF
  by_cases q : W.st (W.size - 1) % 2 = s
  · rw [if_pos (congrArg zI q), zI_0, rZ_z0, decide_eq_false (by omega)]; rfl
  · rw [if_neg (by rw [zI_eq (by omega) (by omega)]; exact q), gdK_of ha.s0, lead_sp ha c ok hr h0 h1 s01, cI_rI, gdK_of hr.1.s0, spouse_sp hr s01 h0 h1, cI_rI]
    show (if zI (fOf σ r W s x) = _ then _ else _) = _
    by_cases z : fOf σ r W s x = spF (rd σ (r + 1)) (rd σ (r + 2)) s x
    · rw [if_pos (congrArg zI z), show (1 : Int32) = zI 1 from zI_lit 1, rZ_z1, decide_eq_true ⟨q, z⟩]; rfl
    · rw [if_neg (by rw [zI_eq (by omega) (by omega)]; exact z), zI_0, rZ_z0, decide_eq_false (fun y => z y.2)]; rfl
theorem lawfulFrom_sp {σ : Sg} {a r d : Nat} {n : Int} {W : WS} (ha : isW a) (c : CWo a W σ) (ok : WOk W) (w1 : 1 ≤ W.size) (hr : RuleAt σ r n) (n0 : 0 ≤ n) {s : Int} (s01 : s = 0 ∨ s = 1) : ∃ u, f_Word_lawfulFrom (d + 4) a r (zI s) σ = rI u σ ∧ ∀ y, 0 ≤ y → y < 32 → gb u y = (decide (y < n) && lwF (rd σ (r + 1)) (rd σ (r + 2)) (fOf σ r W s) (W.st (W.size - 1) % 2) s y) := by
  have n6 := hr.2.2.1
  have e0 : σ.1 r 0 = zI n := by rw [rd_k]; exact congrArg zI hr.2.1
  rw [f_Word_lawfulFrom_eq, zI_0]
  refine setloop (F := fun i u => f_Word_lawfulFrom_5 (d + 3) a r (zI s) u (zI i) σ) (fun i u i0 i1 => ?_) (fun u => ?_) n0 (by omega)
  · show f_Word_lawfulFrom_5 _ _ _ _ _ _ _ = f_Word_lawfulFrom_5 _ _ _ _ _ _ _
    rw [f_Word_lawfulFrom_5_eq, gfI_of hr.1.s0, e0, if_pos (by rw [zI_le (by omega) (by omega)]; exact i1), gdK_of ha.s0, isLawful_sp ha c ok w1 hr s01 i0 i1, cI_rI, zI_0, show (1 : Int32) = zI 1 from zI_lit 1, show (31 : Int32) = zI 31 from zI_lit 31, zI_add]
    cases lwF (rd σ (r + 1)) (rd σ (r + 2)) (fOf σ r W s) (W.st (W.size - 1) % 2) s i
    · rw [bz_ff, if_pos rfl, if_neg Bool.false_ne_true]
    · rw [bz_tt, if_neg (by decide), if_pos rfl]
  · show f_Word_lawfulFrom_5 _ _ _ _ _ _ _ = _
    rw [f_Word_lawfulFrom_5_eq, gfI_of hr.1.s0, e0, if_neg Int32.lt_irrefl]
theorem lawfulM_sp {σ : Sg} {d : Nat} {n : Int} {W : WS} {A B C M : Int → Int} (c : MWo W σ) (ok : WOk W) (w1 : 1 ≤ W.size) (hr : MR4 σ n A B C M) (n0 : 0 ≤ n ∧ n ≤ 6) (e0 : σ.1 102 5 = zI n) (hN : NmOk n A B C M) {s : Int} (s01 : s = 0 ∨ s = 1) {f : Int → Int} (hf : f = ldF (goF A B C M) W.st W.size.toNat 0 s) : ∃ u, f_M_lawful (d + 4) (zI s) σ = rI u σ ∧ ∀ y, 0 ≤ y → y < 32 → gb u y = (decide (y < n) && lwF A B f (W.st (W.size - 1) % 2) s y) := by
  have hG := fun k s x h0 h1 => goF_lt hN (k := k) (s := s) (x := x) h0 h1
  have hm : 0 ≤ W.st (W.size - 1) % 2 ∧ W.st (W.size - 1) % 2 < 2 := by omega
  rw [f_M_lawful_eq, zI_0]
  refine setloop (F := fun i u => f_M_lawful_4 (d + 3) (zI s) u (zI i) σ) (fun i u i0 i1 => ?_) (fun u => ?_) n0.1 (by omega)
  · have g : 0 ≤ f i ∧ f i < n := by rw [hf]; exact ldF_lt hG _ _ _ _ i0 i1
    have hsp : 0 ≤ spF A B s i ∧ spF A B s i < n := by
      obtain ⟨⟨a1, a2, a3, a4, -⟩, -⟩ := hN.2 i i0 i1
      unfold spF; split <;> omega
    show f_M_lawful_4 _ _ _ _ _ = f_M_lawful_4 _ _ _ _ _
    rw [f_M_lawful_4_eq, e0, if_pos (by rw [zI_le (by omega) (by omega)]; exact i1), sortEndM_sp c ok w1, cI_rI]
    unfold lwF
    by_cases q : W.st (W.size - 1) % 2 = s
    · rw [if_pos (congrArg zI q), if_neg (by simp [q]), show (1 : Int32) = zI 1 from zI_lit 1, zI_add]
    · rw [if_neg (by rw [zI_eq (by omega) (by omega)]; exact q), leadM_sp c ok hr hG i0 i1 s01, cI_rI, spouseOf_sp hr.1 s01 i0 i1, cI_rI, ← hf, show (1 : Int32) = zI 1 from zI_lit 1, show (31 : Int32) = zI 31 from zI_lit 31, zI_add]
      by_cases z : f i = spF A B s i
      · rw [if_pos (congrArg zI z), if_pos (decide_eq_true ⟨q, z⟩)]
      · rw [if_neg (by rw [zI_eq (by omega) (by omega)]; exact z), if_neg (by simp [z])]
  · show f_M_lawful_4 _ _ _ _ _ = _
    rw [f_M_lawful_4_eq, e0, if_neg Int32.lt_irrefl]
