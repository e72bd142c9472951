/-! law: the call -/
theorem c_law {σ : Sg} {r p l : Nat} (h : Inv r p l σ) (n : Int32) : Same (f_N_law 100 n) (f_M_law 100 n) σ := by
  obtain ⟨n, rfl, hn⟩ := zI_ex n
  obtain ⟨t0, t1, t2, t3⟩ := h.2.1
  have hb := h.bits
  have hr : r = 7 ∨ r = 12 := hb.1
  have hp : p = 17 ∨ p = 25 := hb.2.1
  have hl : l = 33 ∨ l = 41 := hb.2.2
  have tN := isTapeHas (σ := σ) (d := 98) (a := n) (m := 240) (by decide) hn
  have inM := fun (τ : Sg) => in_sp (σ := τ) (d := 98) (a := n) (b := 1) (c := 240) hn (by decide) (by decide)
  by_cases qn : ¬ (1 ≤ n ∧ n ≤ 240 ∧ n ≤ rd σ 5 1)
  · refine ⟨-1, σ, σ, r, p, l, ?_, ?_, h⟩
    · rw [f_N_law_eq, show (240 : Int32) = zI 240 from zI_lit 240, tN, cI_rI, ifBz, if_neg qn]
    · rw [f_M_law_eq, show (1 : Int32) = zI 1 from zI_lit 1, show (240 : Int32) = zI 240 from zI_lit 240, inM, cI_rI, ifBz]
      by_cases z : 1 ≤ n ∧ n ≤ 240
      · rw [if_pos z, show σ.1 102 7 = zI (rd σ 5 1) from (rd_k σ 102 7).trans (congrArg zI t2), ifLe (by omega) hn, if_pos (by omega)]
      · rw [if_neg z]
  obtain ⟨q1, q2, q3⟩ := Classical.not_not.mp qn
  obtain ⟨iR, iP, iL, c41, c42, c43, c44, c45, c46, c61⟩ := id h.1
  have hQ : isL (74 - l) := by rcases hl with rfl | rfl <;> simp [isL]
  have tb : ∀ j, 0 ≤ j → j < n → 0 ≤ rd σ 6 j ∧ rd σ 6 j < 256 := fun j j0 j1 => by have := t3 j j0 (by omega); omega
  have hx : TX n (rd σ 6) := ⟨by omega, by omega, tb⟩
  have et := take_sp (σ := σ) (d := 98) (f := 0) (n := n)
  have F1 : Fr (fun x _ => x == 5) σ (sI (sI (sI (sI σ 5 2 (zI 0)) 5 3 (zI n)) 5 4 (zI 0)) 5 1 (zI 0)) := ((((Fr.rf _ σ).sI _ rfl).sI _ rfl).sI _ rfl).sI _ rfl
  have x1 : (sI (sI (sI (sI σ 5 2 (zI 0)) 5 3 (zI n)) 5 4 (zI 0)) 5 1 (zI 0)).1 5 1 = zI 0 := rfl
  have hC : CT 0 n (rd σ 6) (sI (sI (sI (sI σ 5 2 (zI 0)) 5 3 (zI n)) 5 4 (zI 0)) 5 1 (zI 0)) := ⟨rfl, rfl, fun j j0 j1 => by
    rw [Int.zero_add]
    show σ.1 6 j.toNat = _
    rw [rd_k, toNat_c j0]⟩
  have x4 : (sI (sI (sI (sI σ 5 2 (zI 0)) 5 3 (zI n)) 5 4 (zI 0)) 5 1 (zI 0)).1 5 4 = zI 0 := rfl
  generalize sI (sI (sI (sI σ 5 2 (zI 0)) 5 3 (zI n)) 5 4 (zI 0)) 5 1 (zI 0) = σ1 at F1 x1 x4 et hC
  obtain ⟨v, m, s, K, N, A, B, C, v0, v1, vok, hN, hM⟩ := lawLoop hQ hx q2 n.toNat 0 0 0 (fun _ => 0, fun _ => 0, fun _ => 0) (fun _ => 0) (fun _ => 0) (fun _ => 0) (fun _ => 0) (by omega) (by decide) (by omega) (by decide) (by decide) (fun j j0 j1 => by omega) (by decide) (by decide) (fun i i0 i1 => by omega)
  have neQ : 74 - l ≠ (5 : Nat) := by rcases hl with rfl | rfl <;> decide
  have Fc : Fr (SLa (74 - l)) σ1 (sI (sI σ1 (74 - l) 0 (zI 0)) (74 - l) 5 (zI 0)) := ((Fr.rf _ σ1).sI _ (by simp [SLa])).sI _ (by simp [SLa, SLw])
  have cl0 : CL (74 - l) n (rd σ 6) 0 0 (fun _ => 0, fun _ => 0, fun _ => 0) (sI (sI σ1 (74 - l) 0 (zI 0)) (74 - l) 5 (zI 0)) := by
    refine ⟨CP.fr (pl := 0) ⟨hC, x4⟩ Fc ?_ ?_ (fun k => ?_) ?_, sI_same _ _ _ _, fun j j0 j1 => by omega⟩
    · rcases hl with rfl | rfl <;> rfl
    · rcases hl with rfl | rfl <;> rfl
    · rcases hl with rfl | rfl <;> rfl
    · rw [sI_row _ _ _ _ _ neQ.symm, sI_row _ _ _ _ _ neQ.symm]; exact x4
  obtain ⟨σ2, a1, a2, a3⟩ := hN _ 0 (by decide) (by decide) cl0 ((sI_slot _ _ _ _ (by decide)).trans (sI_same _ _ _ _)) ⟨fun x x0 x1 => by omega, fun x x0 x1 => by omega, fun x x0 x1 => by omega, fun x x0 x1 => by omega⟩
  have F2 : Fr (SLa (74 - l)) σ1 σ2 := Fc.tr a2
  have eR : f_LawReader_read 99 (74 - l) σ1 = rI (zI v) σ2 := by
    rw [f_LawReader_read_eq, gdK_of hQ.s0, f_Law_clear_eq, zI_0, pfI_of hQ.s0, pfI_of hQ.s0, cV_rV]
    exact a1
  have q46 : σ1.2.2 4 6 = 74 - l := by rw [F1.1]; exact c46
  have rN : f_N_law 100 (zI n) σ = if v = 0 then (gfI 2 ((sR (sR σ2 4 5 (σ2.2.2 4 6)) 4 6 (σ2.2.2 4 5)).2.2 4 5) 0 (sR (sR σ2 4 5 (σ2.2.2 4 6)) 4 6 (σ2.2.2 4 5)) fun v8 => rI v8 (sR (sR σ2 4 5 (σ2.2.2 4 6)) 4 6 (σ2.2.2 4 5))) else rI (zI v) σ2 := by
    have et : f_Tape_take 99 (zI 0) (zI n) σ = rV σ1 := et
    rw [f_N_law_eq, show (240 : Int32) = zI 240 from zI_lit 240, tN, cI_rI, ifBz, if_pos ⟨q1, q2, q3⟩, zI_0, et, cV_rV, q46, eR, cI_rI, ← zI_0, ifV v1 v0]
  have k2a : ∀ a j, (spL l a || a == 5) = false → σ2.1 a j = σ.1 a j := fun a j e => by
    simp only [Bool.or_eq_false_iff] at e
    refine (F2.2 a j ?_).trans (F1.2 a j e.2)
    revert e
    rcases hl with rfl | rfl
    all_goals simp [spL, SLa, SLw]; omega
  have e251 : σ2.1 5 1 = zI 0 := (F2.2 5 1 (by rcases hl with rfl | rfl <;> rfl)).trans x1
  have ref : ∀ υ : Sg, (∀ k, υ.1 108 k = σ.1 108 k) → υ.1 102 7 = σ.1 102 7 → ∃ τ2 y, Fr (fun a k => SMk a k || SMla a k) υ τ2 ∧ (v = 0 → τ2.1 102 13 = zI s ∧ isRow 109 s K.2.2 τ2 ∧ τ2.1 102 15 = zI m ∧ RwM m N A B C τ2) ∧ f_M_law 100 (zI n) υ = if v = 0 then f_M_law_96 99 y (.int (zI 1)) (zI 0) (sI (sI τ2 102 7 (zI 0)) 102 16 (zI m)) else rI (zI v) (sI τ2 102 7 (zI 0)) := fun υ h108 h7 => by
    obtain ⟨υ1, bt, B1, e8, e9, e13, e15⟩ := begins2_sp (υ := υ) (d := 98) (n := n)
    have hMT : MT 0 n (rd σ 6) υ1 := fun j j0 j1 => by rw [Int.zero_add, B1.2 108 _ rfl, h108]; exact (t3 j j0 (by omega)).2.2
    have ml : ML n (rd σ 6) 0 (rd υ1 102 12) 0 (fun _ => 0, fun _ => 0, fun _ => 0) (rd υ1 102 14) (rd υ1 110) υ1 := ⟨⟨hMT, e8, e9⟩, rd_k υ1 102 12, e13, rd_k υ1 102 14, fun j j0 j1 => by omega, fun j j0 j1 => by rw [rd_k, toNat_c j0]⟩
    obtain ⟨τ2, run, K2, hR⟩ := hM υ1 _ _ _ ml e15 ⟨fun x x0 x1 => by omega, fun x x0 x1 => by omega, fun x x0 x1 => by omega, fun x x0 x1 => by omega⟩
    obtain ⟨y, hy⟩ := run (.int (zI n)) .null
    refine ⟨τ2, y, FrU B1 K2 fun a k e => by simp only [Bool.or_eq_false_iff] at e; exact e, hR, ?_⟩
    have bt : f_M_beginsText 99 (zI 0) (zI n) υ = rV υ1 := bt
    rw [f_M_law_eq, show (1 : Int32) = zI 1 from zI_lit 1, show (240 : Int32) = zI 240 from zI_lit 240, inM, cI_rI, ifBz, if_pos ⟨q1, q2⟩, h7, show σ.1 102 7 = zI (rd σ 5 1) from (rd_k σ 102 7).trans (congrArg zI t2), ifLe (by omega) hn, if_neg (by omega), zI_0, bt, cV_rV]
    exact hy
  by_cases vz : v = 0
  · subst vz
    obtain ⟨⟨pl', cl'⟩, em, rn⟩ := a3 rfl
    obtain ⟨m0, m16, s0, s240, kok, clo⟩ := vok rfl
    have r2 : σ2.2.2 = σ.2.2 := F2.1.trans F1.1
    rw [if_pos rfl] at rN
    have s3 : (sR (sR σ2 4 5 (σ2.2.2 4 6)) 4 6 (σ2.2.2 4 5)).1 = σ2.1 := rfl
    have s45 : (sR (sR σ2 4 5 (σ2.2.2 4 6)) 4 6 (σ2.2.2 4 5)).2.2 4 5 = 74 - l := by
      show σ2.2.2 4 6 = 74 - l
      rw [r2]; exact c46
    have s46 : (sR (sR σ2 4 5 (σ2.2.2 4 6)) 4 6 (σ2.2.2 4 5)).2.2 4 6 = l := by
      show σ2.2.2 4 5 = l
      rw [r2]; exact c45
    have s4o : ∀ b j, ¬ (b = 4 ∧ (j = 5 ∨ j = 6)) → (sR (sR σ2 4 5 (σ2.2.2 4 6)) 4 6 (σ2.2.2 4 5)).2.2 b j = σ.2.2 b j := fun b j q => by rw [sR_2, if_neg (by omega), sR_2, if_neg (by omega), r2]
    generalize sR (sR σ2 4 5 (σ2.2.2 4 6)) 4 6 (σ2.2.2 4 5) = σ3 at s3 s45 s46 s4o rN
    have k3 : ∀ a j, (spL l a || a == 5) = false → σ3.1 a j = σ.1 a j := fun a j e => by rw [s3]; exact k2a a j e
    have eN : f_N_law 100 (zI n) σ = rI (zI m) σ3 := by
      rw [rN, s45, gfI_of hQ.s0, s3, em]
    obtain ⟨τ2, y, K2, hr2, rM⟩ := ref σ3 (fun k => k3 108 k (by rcases hl with rfl | rfl <;> rfl)) (k3 102 7 (by rcases hl with rfl | rfl <;> rfl))
    rw [if_pos rfl] at rM
    obtain ⟨g13, g9, g15, gm⟩ := hr2 rfl
    generalize hs3 : sI (sI τ2 102 7 (zI 0)) 102 16 (zI m) = τ3 at rM
    have t3a : ∀ a j, ¬ (a = 102 ∧ (j = 7 ∨ j = 16)) → τ3.1 a j = τ2.1 a j := fun a j q => by
      rw [← hs3, sI_1, if_neg (by omega), sI_1, if_neg (by omega)]
    have t316 : τ3.1 102 16 = zI m := by rw [← hs3, sI_same]
    have t37 : τ3.1 102 7 = zI 0 := by rw [← hs3, sI_slot _ _ _ _ (by decide), sI_same]
    have t32 : τ3.2.2 = τ2.2.2 := by rw [← hs3]; rfl
    obtain ⟨τ', rc, K7, h5, h6, h7, h8, h9⟩ := lawCopy s0 s240 m0 m16 (τ := τ3) (M := K.2.2) (N := N) (A := A) (B := B) (C := C) ((t3a _ _ (by omega)).trans g13) ((t3a _ _ (by omega)).trans g15) (fun x x0 x1 => (t3a _ _ (by omega)).trans (g9 x x0 x1)) ⟨fun x x0 x1 => (t3a _ _ (by omega)).trans (gm.1 x x0 x1), fun x x0 x1 => (t3a _ _ (by omega)).trans (gm.2.1 x x0 x1), fun x x0 x1 => (t3a _ _ (by omega)).trans (gm.2.2.1 x x0 x1), fun x x0 x1 => (t3a _ _ (by omega)).trans (gm.2.2.2 x x0 x1)⟩ (d := 99) (y := y) (z := .int (zI 1))
    refine ⟨zI m, σ3, τ', r, p, 74 - l, eN, by rw [rM]; exact rc, ?_⟩
    have kt : ∀ a j, S115 a j = false → SMk a j = false → SMla a j = false → ¬ (a = 102 ∧ (j = 7 ∨ j = 16)) → τ'.1 a j = σ3.1 a j := fun a j q1 q2 q3 q4 => (K7.2 a j q1).trans ((t3a a j q4).trans (K2.2 a j (by show (SMk a j || SMla a j) = false; rw [q2, q3]; rfl)))
    have g7 : τ'.2.2 = σ3.2.2 := K7.1.trans (t32.trans K2.1)
    have kQ : ∀ a j, (a = 74 - l ∨ a = 74 - l + 1 ∨ a = 74 - l + 2 ∨ a = 74 - l + 3 ∨ a = 74 - l + 4 ∨ a = 74 - l + 5 ∨ a = 74 - l + 6) → τ'.1 a j = σ2.1 a j := fun a j q => by
      rw [kt a j (by rcases hl with rfl | rfl <;> rcases q with rfl | rfl | rfl | rfl | rfl | rfl | rfl <;> rfl) (by rcases hl with rfl | rfl <;> rcases q with rfl | rfl | rfl | rfl | rfl | rfl | rfl <;> rfl) (by rcases hl with rfl | rfl <;> rcases q with rfl | rfl | rfl | rfl | rfl | rfl | rfl <;> rfl) (by omega), s3]
    refine law_inv h (by rw [g7]; exact s45) (by rw [g7]; exact s46) (fun b j q => by rw [g7]; exact s4o b j q) (fun a j e => ?_) ?_ ((K7.2 102 7 rfl).trans t37) ?_
    · simp only [SLo2, Bool.or_eq_false_iff] at e
      obtain ⟨e1, ⟨⟨⟨e2, e3⟩, e4⟩, e5⟩, e6⟩ := e
      rw [kt a j e6 e3 e4 (by intro q; obtain ⟨rfl, rfl | rfl⟩ := q <;> cases e5)]
      exact k3 a j (by rw [e1, e2]; rfl)
    · rw [kt 5 1 rfl rfl rfl (by omega), s3]
      exact e251
    · exact ILaw.mk' m0 m16 s240 kok clo ((kQ _ _ (by simp)).trans em) ((K7.2 102 16 rfl).trans t316) ⟨fun x x0 x1 => (kQ _ _ (by simp)).trans (rn.1 x x0 x1), fun x x0 x1 => (kQ _ _ (by simp)).trans (rn.2.1 x x0 x1), fun x x0 x1 => (kQ _ _ (by simp)).trans (rn.2.2.1 x x0 x1), fun x x0 x1 => (kQ _ _ (by simp)).trans (rn.2.2.2 x x0 x1)⟩ (fun j j0 j1 => ⟨(kQ _ _ (by simp)).trans (cl'.2.2 j j0 j1).1, (kQ _ _ (by simp)).trans (cl'.2.2 j j0 j1).2⟩) h5 h6 h7 h8 h9
  · rw [if_neg vz] at rN
    obtain ⟨τ2, y, K2, -, rM⟩ := ref σ2 (fun k => k2a 108 k (by rcases hl with rfl | rfl <;> rfl)) (k2a 102 7 (by rcases hl with rfl | rfl <;> rfl))
    rw [if_neg vz] at rM
    refine ⟨zI v, σ2, _, r, p, l, rN, rM, ?_⟩
    have F : Fr (fun a k => spL l a || (a == 5 || SMk a k || SMla a k || (a == 102 && k == 7))) σ (sI τ2 102 7 (zI 0)) := by
      have F0 : Fr (fun a k => spL l a || (a == 5 || SMk a k || SMla a k || (a == 102 && k == 7))) σ σ2 := ⟨F2.1.trans F1.1, fun a k e => k2a a k (by simp only [Bool.or_eq_false_iff] at e ⊢; exact ⟨e.1, e.2.1.1.1⟩)⟩
      refine (F0.tr (K2.mono fun a k e => ?_)).sI _ (by simp)
      simp only [Bool.or_eq_false_iff] at e ⊢
      exact ⟨e.2.1.1.2, e.2.1.2⟩
    obtain ⟨σ7, G1, G2⟩ := F.cut
    refine (h.spareL G1).took G2 ?_ ?_ (by rcases hb.2.2 with rfl | rfl <;> rfl) (by rcases hb.2.2 with rfl | rfl <;> repeat (first | exact trivial | refine ⟨fun _ => rfl, ?_⟩ | refine ⟨rfl, ?_⟩)) ?_ (rd_of (x := 7) (v := 0) (sI_same _ _ _ _) (by decide) (by decide))
    · repeat (first | exact trivial | refine ⟨fun _ => rfl, ?_⟩ | refine ⟨rfl, ?_⟩)
    · repeat (first | exact trivial | refine ⟨fun _ => rfl, ?_⟩ | refine ⟨rfl, ?_⟩)
    · refine rd_of (x := 1) ?_ (by decide) (by decide)
      rw [sI_row _ _ _ _ _ (by decide)]
      exact (K2.2 5 1 rfl).trans e251
