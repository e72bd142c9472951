/-! roll: the call -/
theorem c_roll {σ : Sg} {r p l : Nat} (h : Inv r p l σ) (n : Int32) : Same (f_N_roll 100 n) (f_M_roll 100 n) σ := by
  obtain ⟨n, rfl, hn⟩ := zI_ex n
  obtain ⟨n1, n2, n3, n4⟩ := h.n
  obtain ⟨t0, t1, t2, t3⟩ := h.2.1
  have hb := h.bits
  have hr : r = 7 ∨ r = 12 := hb.1
  have hp : p = 17 ∨ p = 25 := hb.2.1
  have hl : l = 33 ∨ l = 41 := hb.2.2
  have er : σ.1 r 0 = zI (rd σ r 0) := rd_k σ r 0
  have tN := isTapeHas (σ := σ) (d := 98) (a := n) (m := 240) (by decide) hn
  have inM := fun (τ : Sg) => in_sp (σ := τ) (d := 98) (a := n) (b := 1) (c := 240) hn (by decide) (by decide)
  by_cases qn : ¬ (rd σ r 0 ≠ 0 ∧ 1 ≤ n ∧ n ≤ 240 ∧ n ≤ rd σ 5 1)
  · refine ⟨-1, σ, σ, r, p, l, ?_, ?_, h⟩
    · rw [f_N_roll_eq, n1, gfI_of n2, er, ifE0 (by omega)]
      by_cases z : rd σ r 0 = 0
      · rw [if_pos z]
      · rw [if_neg z, show (240 : Int32) = zI 240 from zI_lit 240, tN, cI_rI, ifBz, if_neg (fun y => qn ⟨z, y⟩)]
    · rw [f_M_roll_eq, show (1 : Int32) = zI 1 from zI_lit 1, show (240 : Int32) = zI 240 from zI_lit 240, inM, cI_rI, ifBz]
      by_cases z : 1 ≤ n ∧ n ≤ 240
      · rw [if_pos z, show σ.1 102 5 = zI (rd σ r 0) from (rd_k σ 102 5).trans (congrArg zI n4), ifE0 (by omega)]
        by_cases w : rd σ r 0 = 0
        · rw [if_pos w]
        · rw [if_neg w, show σ.1 102 7 = zI (rd σ 5 1) from (rd_k σ 102 7).trans (congrArg zI t2), ifLe (by omega) hn, if_pos (by omega)]
      · rw [if_neg z]
  obtain ⟨nz, q1, q2, q3⟩ := Classical.not_not.mp qn
  obtain ⟨iR, iP, iL, c41, c42, c43, c44, c45, c46, c61⟩ := id h.1
  have hP : isP (42 - p) := by rcases hp with rfl | rfl <;> simp [isP]
  have tb : ∀ j, 0 ≤ j → j < n → 0 ≤ rd σ 6 j ∧ rd σ 6 j < 256 := fun j j0 j1 => by have := t3 j j0 (by omega); omega
  have hx : TX n (rd σ 6) := ⟨by omega, by omega, tb⟩
  have et := take_sp (σ := σ) (d := 98) (f := 0) (n := n)
  have F1 : Fr (fun x _ => x == 5) σ (sI (sI (sI (sI σ 5 2 (zI 0)) 5 3 (zI n)) 5 4 (zI 0)) 5 1 (zI 0)) := ((((Fr.rf _ σ).sI _ rfl).sI _ rfl).sI _ rfl).sI _ rfl
  have x1 : (sI (sI (sI (sI σ 5 2 (zI 0)) 5 3 (zI n)) 5 4 (zI 0)) 5 1 (zI 0)).1 5 1 = zI 0 := rfl
  have hC : CT 0 n (rd σ 6) (sI (sI (sI (sI σ 5 2 (zI 0)) 5 3 (zI n)) 5 4 (zI 0)) 5 1 (zI 0)) := ⟨rfl, rfl, fun j j0 j1 => by
    rw [Int.zero_add]
    show σ.1 6 j.toNat = _
    rw [rd_k, toNat_c j0]⟩
  have x4 : (sI (sI (sI (sI σ 5 2 (zI 0)) 5 3 (zI n)) 5 4 (zI 0)) 5 1 (zI 0)).1 5 4 = zI 0 := rfl
  generalize sI (sI (sI (sI σ 5 2 (zI 0)) 5 3 (zI n)) 5 4 (zI 0)) 5 1 (zI 0) = σ1 at F1 x1 x4 et hC
  obtain ⟨v, m, S, L, F, G, D, v0, v1, vok, hN, hM⟩ := rollBoth hP hx n3.1 n3.2 93 93 n.toNat 0 0 (fun _ => 0) (fun _ => 0) (fun _ => 0) (fun _ => 0) (fun _ => 0) (by omega) (by decide) (by omega) ⟨by decide, by decide, fun x x0 x1 => by omega⟩
  have neP : 42 - p ≠ (5 : Nat) := by rcases hp with rfl | rfl <;> decide
  obtain ⟨σ2, a1, a2, a3⟩ := hN (sI σ1 (42 - p) 0 (zI 0)) (CP.fr (S := fun a _ => a == 42 - p) ⟨hC, x4⟩ ((Fr.rf _ σ1).sI _ (by simp)) (by rcases hp with rfl | rfl <;> rfl) (by rcases hp with rfl | rfl <;> rfl) (fun k => by rcases hp with rfl | rfl <;> rfl) ((sI_row _ _ _ _ _ neP.symm).trans x4)) (sI_same _ _ _ _) ⟨fun x x0 x1 => by omega, fun x x0 x1 => by omega, fun x x0 x1 => by omega, fun x x0 x1 => by omega, fun x x0 x1 => by omega⟩
  have F2 : Fr (SRol (42 - p)) σ1 σ2 := ((Fr.rf _ σ1).sI _ (by simp [SRol])).tr a2
  have eR : f_Roll_read 99 (42 - p) (zI (rd σ r 0)) σ1 = rI (zI v) σ2 := by
    rw [f_Roll_read_eq, zI_0, pfI_of hP.s0]
    exact a1 .null
  have q44 : σ1.2.2 4 4 = 42 - p := by rw [F1.1]; exact c44
  have q41 : σ1.2.2 4 1 = r := by rw [F1.1]; exact c41
  have er1 : σ1.1 r 0 = zI (rd σ r 0) := (F1.2 _ _ (by rcases hr with rfl | rfl <;> rfl)).trans er
  have rN : f_N_roll 100 (zI n) σ = if v = 0 then (cV (f_Houses_settle 99 ((sR (sR σ2 4 3 (σ2.2.2 4 4)) 4 4 (σ2.2.2 4 3)).2.2 4 1) ((sR (sR σ2 4 3 (σ2.2.2 4 4)) 4 4 (σ2.2.2 4 3)).2.2 4 3) (sR (sR σ2 4 3 (σ2.2.2 4 4)) 4 4 (σ2.2.2 4 3))) fun σ10 => gfI 4 (σ10.2.2 4 3) 0 σ10 fun v11 => rI v11 σ10) else rI (zI v) σ2 := by
    have et : f_Tape_take 99 (zI 0) (zI n) σ = rV σ1 := et
    rw [f_N_roll_eq, n1, gfI_of n2, er, ifE0 (by omega), if_neg nz, show (240 : Int32) = zI 240 from zI_lit 240, tN, cI_rI, ifBz, if_pos ⟨q1, q2, q3⟩, zI_0, et, cV_rV, q41, gfI_of n2, er1, q44, gdK_of hP.s0, eR, cI_rI, ← zI_0, ifV v1 v0]
  have k2a : ∀ a j, (spP p a || a == 5) = false → σ2.1 a j = σ.1 a j := fun a j e => by
    simp only [Bool.or_eq_false_iff] at e
    refine (F2.2 a j ?_).trans (F1.2 a j e.2)
    revert e
    rcases hp with rfl | rfl
    all_goals simp [spP, SRol, SRper, SRn, SRel]; omega
  have e251 : σ2.1 5 1 = zI 0 := (F2.2 5 1 (by rcases hp with rfl | rfl <;> rfl)).trans x1
  -- the reference, from a state with the same tape
  have ref : ∀ υ : Sg, (∀ k, υ.1 108 k = σ.1 108 k) → (∀ k, υ.1 102 k = σ.1 102 k) → ∃ τ2 y, Fr (fun a k => SMk a k || SMper a k) υ τ2 ∧ (v = 0 → RoNw m S L F G D τ2) ∧ f_M_roll 100 (zI n) υ = if v = 0 then f_M_roll_108 99 y (.int (zI 1)) (zI 0) (sI (sI τ2 102 7 (zI 0)) 102 69 (zI m)) else rI (zI v) (sI τ2 102 7 (zI 0)) := fun υ h108 h102 => by
    obtain ⟨υ1, bt, B1, e8, e9⟩ := begins_sp (υ := υ) (d := 98) (n := n)
    have hMT : MT 0 n (rd σ 6) υ1 := fun j j0 j1 => by rw [Int.zero_add, B1.2 108 _ rfl, h108]; exact (t3 j j0 (by omega)).2.2
    have mp1 : MP n (rd σ 6) 0 υ1 := ⟨hMT, e8, e9⟩
    have mp : MP n (rd σ 6) 0 (sI υ1 102 70 (zI 0)) := mp1.fr (S := SMper) ((Fr.rf _ υ1).sI _ rfl) rfl (fun _ => rfl) ((sI_slot _ _ _ _ (by decide)).trans e8)
    have k5 : (sI υ1 102 70 (zI 0)).1 102 5 = zI (rd σ r 0) := (sI_slot _ _ _ _ (by decide)).trans ((B1.2 102 5 rfl).trans ((h102 5).trans ((rd_k σ 102 5).trans (congrArg zI n4))))
    obtain ⟨τ2, run, K2, hR⟩ := hM _ mp (sI_same _ _ _ _) k5 ⟨fun x x0 x1 => by omega, fun x x0 x1 => by omega, fun x x0 x1 => by omega, fun x x0 x1 => by omega, fun x x0 x1 => by omega⟩
    obtain ⟨y, hy⟩ := run (.int (zI n)) .null
    refine ⟨τ2, y, FrU B1 (((Fr.rf SMper υ1).sI (zI 0) rfl).tr K2) fun a k e => by simp only [Bool.or_eq_false_iff] at e; exact e, hR, ?_⟩
    have bt : f_M_beginsText 99 0 (zI n) υ = rV υ1 := bt
    rw [f_M_roll_eq, show (1 : Int32) = zI 1 from zI_lit 1, show (240 : Int32) = zI 240 from zI_lit 240, inM, cI_rI, ifBz, if_pos ⟨q1, q2⟩, h102 5, show σ.1 102 5 = zI (rd σ r 0) from (rd_k σ 102 5).trans (congrArg zI n4), ifE0 (by omega), if_neg nz, h102 7, show σ.1 102 7 = zI (rd σ 5 1) from (rd_k σ 102 7).trans (congrArg zI t2), ifLe (by omega) hn, if_neg (by omega), bt, cV_rV]
    dsimp only
    rw [zI_0]
    exact hy
  by_cases vz : v = 0
  · subst vz
    obtain ⟨em, ro, re⟩ := a3 rfl
    have ok := vok rfl
    obtain ⟨m0, m24, okp⟩ := id ok
    have r2 : σ2.2.2 = σ.2.2 := F2.1.trans F1.1
    rw [if_pos rfl] at rN
    have s3 : (sR (sR σ2 4 3 (σ2.2.2 4 4)) 4 4 (σ2.2.2 4 3)).1 = σ2.1 := rfl
    have s43 : (sR (sR σ2 4 3 (σ2.2.2 4 4)) 4 4 (σ2.2.2 4 3)).2.2 4 3 = 42 - p := by
      show σ2.2.2 4 4 = 42 - p
      rw [r2]; exact c44
    have s44 : (sR (sR σ2 4 3 (σ2.2.2 4 4)) 4 4 (σ2.2.2 4 3)).2.2 4 4 = p := by
      show σ2.2.2 4 3 = p
      rw [r2]; exact c43
    have s4o : ∀ b j, ¬ (b = 4 ∧ (j = 3 ∨ j = 4)) → (sR (sR σ2 4 3 (σ2.2.2 4 4)) 4 4 (σ2.2.2 4 3)).2.2 b j = σ.2.2 b j := fun b j q => by rw [sR_2, if_neg (by omega), sR_2, if_neg (by omega), r2]
    generalize sR (sR σ2 4 3 (σ2.2.2 4 4)) 4 4 (σ2.2.2 4 3) = σ3 at s3 s43 s44 s4o rN
    have k3 : ∀ a j, (spP p a || a == 5) = false → σ3.1 a j = σ.1 a j := fun a j e => by rw [s3]; exact k2a a j e
    have s41 : σ3.2.2 4 1 = r := (s4o 4 1 (by omega)).trans c41
    have rr : ∀ a, (a = r ∨ a = r + 1 ∨ a = r + 2 ∨ a = r + 3 ∨ a = r + 4) → rd σ3 a = rd σ a := fun a q => funext fun y => by
      unfold rd
      rw [k3 a _ (by rcases hp with rfl | rfl <;> rcases hr with rfl | rfl <;> rcases q with rfl | rfl | rfl | rfl | rfl <;> rfl)]
    have hRu : RuleAt σ3 r (rd σ r 0) := by
      have := h.2.2.1.1
      unfold RuleAt at this ⊢
      rw [rr r (by simp), rr (r + 1) (by simp), rr (r + 2) (by simp), rr (r + 3) (by simp), rr (r + 4) (by simp)]
      exact this
    have em3 : σ3.1 (42 - p) 0 = zI m := by rw [s3]; exact em
    have ro3 : RoN (42 - p) m S L F G D σ3 := by
      unfold RoN isRow; rw [s3]; exact ro
    have rP : rd σ3 (42 - p) 0 = m := rd_of (x := 0) em3 (by omega) (by omega)
    have okT : RlOk (rd σ r 0) m (rd σ3 (42 - p + 1)) (rd σ3 (42 - p + 2)) (rd σ3 (42 - p + 3)) (rd σ3 (42 - p + 4)) (rd σ3 (42 - p + 5)) := ok.of fun x x0 x1 => by
      have b := okp x x0 x1
      exact ⟨rd_of (ro3.1 x x0 x1) (by omega) (by omega), rd_of (ro3.2.1 x x0 x1) (by omega) (by omega), rd_of (ro3.2.2.1 x x0 x1) (by omega) (by omega), rd_of (ro3.2.2.2.1 x x0 x1) (by omega) (by omega), rd_of (ro3.2.2.2.2 x x0 x1) (by omega) (by omega)⟩
    have rcl : ∀ a : Nat, ∀ x : Int, 0 ≤ x → σ3.1 a x.toNat = zI (rd σ3 a x) := fun a x x0 => by rw [rd_k, toNat_c x0]
    have hpx : PX r (42 - p) (rd σ r 0) m (rd σ3 (r + 1)) (rd σ3 (r + 2)) (rd σ3 (r + 3)) (rd σ3 (r + 4)) (rd σ3 (42 - p + 1)) (rd σ3 (42 - p + 2)) (rd σ3 (42 - p + 3)) (rd σ3 (42 - p + 4)) (rd σ3 (42 - p + 5)) σ3 := ⟨hP, hRu, n3.1, ⟨rfl, rfl, rfl, rfl⟩, ⟨hP, rP, fun x x0 => ⟨rcl _ x x0, rcl _ x x0, rcl _ x x0, rcl _ x x0, rcl _ x x0⟩⟩, okT⟩
    obtain ⟨σ6, se, K6, hO⟩ := settle_sp hpx (d := 94)
    have hH6 : IHou r (42 - p) σ6 := by
      have e : ∀ a, SHo a 0 = false → rd σ6 a = rd σ3 a := fun a q => funext fun y => fr_rd K6 q
      have eq : ∀ a, (a = r ∨ a = r + 1 ∨ a = r + 2 ∨ a = r + 4) → rd σ6 a = rd σ3 a := fun a q => e a (by rcases hr with rfl | rfl <;> rcases q with rfl | rfl | rfl | rfl <;> rfl)
      have ep : ∀ a, (a = 42 - p ∨ a = 42 - p + 1 ∨ a = 42 - p + 2 ∨ a = 42 - p + 3 ∨ a = 42 - p + 4 ∨ a = 42 - p + 5) → rd σ6 a = rd σ3 a := fun a q => e a (by rcases hp with rfl | rfl <;> rcases q with rfl | rfl | rfl | rfl | rfl | rfl <;> rfl)
      unfold IHou
      rw [eq r (by simp), eq (r + 1) (by simp), eq (r + 2) (by simp), eq (r + 4) (by simp), ep (42 - p) (by simp), ep (42 - p + 1) (by simp), ep (42 - p + 2) (by simp), ep (42 - p + 3) (by simp), ep (42 - p + 4) (by simp), ep (42 - p + 5) (by simp), rP, rr r (by simp)]
      exact hO
    have k63 : ∀ a j, SHo a 0 = false → σ6.1 a j = σ3.1 a j := fun a j e => K6.2 a j e
    have g6 : σ6.2.2 = σ3.2.2 := K6.1
    have eN : f_N_roll 100 (zI n) σ = rI (zI m) σ6 := by
      have se : f_Houses_settle 99 r (42 - p) σ3 = rV σ6 := se
      rw [rN, s41, s43, se, cV_rV, g6, s43, gfI_of hP.s0, k63 _ _ (by rcases hp with rfl | rfl <;> rfl), em3]
    obtain ⟨τ2, y, K2, hr2, rM⟩ := ref σ6 (fun k => (k63 108 k rfl).trans (k3 108 k (by rcases hp with rfl | rfl <;> rfl))) (fun k => (k63 102 k rfl).trans (k3 102 k (by rcases hp with rfl | rfl <;> rfl)))
    rw [if_pos rfl] at rM
    generalize hs3 : sI (sI τ2 102 7 (zI 0)) 102 69 (zI m) = τ3 at rM
    have t3a : ∀ a j, ¬ (a = 102 ∧ (j = 7 ∨ j = 69)) → τ3.1 a j = τ2.1 a j := fun a j q => by
      rw [← hs3, sI_1, if_neg (by omega), sI_1, if_neg (by omega)]
    have t369 : τ3.1 102 69 = zI m := by rw [← hs3, sI_same]
    have t37 : τ3.1 102 7 = zI 0 := by rw [← hs3, sI_slot _ _ _ _ (by decide), sI_same]
    have t32 : τ3.2.2 = τ2.2.2 := by rw [← hs3]; rfl
    have hr3 : RoNw m S L F G D τ3 := by
      obtain ⟨z1, z2, z3, z4, z5⟩ := hr2 rfl
      exact ⟨fun x x0 x1 => (t3a _ _ (by omega)).trans (z1 x x0 x1), fun x x0 x1 => (t3a _ _ (by omega)).trans (z2 x x0 x1), fun x x0 x1 => (t3a _ _ (by omega)).trans (z3 x x0 x1), fun x x0 x1 => (t3a _ _ (by omega)).trans (z4 x x0 x1), fun x x0 x1 => (t3a _ _ (by omega)).trans (z5 x x0 x1)⟩
    obtain ⟨τ', rc, K7, hcp⟩ := copy5_sp m0 m24 t369 hr3 (d := 99) (y := y) (.int (zI 1))
    refine ⟨zI m, σ6, τ', r, 42 - p, l, eN, by rw [rM]; exact rc, ?_⟩
    have kt : ∀ a j, S142 a j = false → SMk a j = false → SMper a j = false → ¬ (a = 102 ∧ (j = 7 ∨ j = 69)) → τ'.1 a j = σ6.1 a j := fun a j q1 q2 q3 q4 => (K7.2 a j q1).trans ((t3a a j q4).trans (K2.2 a j (by show (SMk a j || SMper a j) = false; rw [q2, q3]; rfl)))
    have g7 : τ'.2.2 = σ3.2.2 := K7.1.trans (t32.trans (K2.1.trans g6))
    have kP : ∀ a j, (a = 42 - p ∨ a = 42 - p + 1 ∨ a = 42 - p + 2 ∨ a = 42 - p + 3 ∨ a = 42 - p + 4 ∨ a = 42 - p + 5 ∨ a = 42 - p + 6 ∨ a = 42 - p + 7) → τ'.1 a j = σ2.1 a j := fun a j q => by
      rw [kt a j (by rcases hp with rfl | rfl <;> rcases q with rfl | rfl | rfl | rfl | rfl | rfl | rfl | rfl <;> rfl) (by rcases hp with rfl | rfl <;> rcases q with rfl | rfl | rfl | rfl | rfl | rfl | rfl | rfl <;> rfl) (by rcases hp with rfl | rfl <;> rcases q with rfl | rfl | rfl | rfl | rfl | rfl | rfl | rfl <;> rfl) (by omega), k63 a j (by rcases hp with rfl | rfl <;> rcases q with rfl | rfl | rfl | rfl | rfl | rfl | rfl | rfl <;> rfl), s3]
    refine roll_inv h (by rw [g7]; exact s43) (by rw [g7]; exact s44) (fun b j q => by rw [g7]; exact s4o b j q) (fun a j e => ?_) ?_ ((K7.2 102 7 rfl).trans t37) ok ((kP _ _ (by simp)).trans em) ((K7.2 102 69 rfl).trans t369) ?_ hcp ?_ ?_
    · simp only [SRo2, Bool.or_eq_false_iff] at e
      obtain ⟨e1, ⟨⟨⟨⟨e2, e3⟩, e4⟩, e5⟩, e6⟩, e7⟩ := e
      rw [kt a j (by simp only [S142, Bool.or_eq_false_iff]; exact e6) e3 e4 (by intro q; obtain ⟨rfl, rfl | rfl⟩ := q <;> cases e5), k63 a j e7]
      exact k3 a j (by rw [e1, e2]; rfl)
    · rw [kt 5 1 rfl rfl rfl (by omega), k63 5 1 rfl, s3]
      exact e251
    · exact ⟨fun x x0 x1 => (kP _ _ (by simp)).trans (ro.1 x x0 x1), fun x x0 x1 => (kP _ _ (by simp)).trans (ro.2.1 x x0 x1), fun x x0 x1 => (kP _ _ (by simp)).trans (ro.2.2.1 x x0 x1), fun x x0 x1 => (kP _ _ (by simp)).trans (ro.2.2.2.1 x x0 x1), fun x x0 x1 => (kP _ _ (by simp)).trans (ro.2.2.2.2 x x0 x1)⟩
    · unfold RelOk at re ⊢
      refine ⟨fun y y0 y1 => ?_, fun x x0 x1 y y0 y1 => ?_⟩
      · rw [kP _ 8 (Or.inl rfl), kP _ 9 (Or.inl rfl)]; exact re.1 y y0 y1
      · rw [kP (42 - p + 6) _ (by simp), kP (42 - p + 7) _ (by simp)]; exact re.2 x x0 x1 y y0 y1
    · refine hH6.fr (S := fun a k => S142 a k || SMk a k || SMper a k || (a == 102 && (k == 7 || k == 69))) ⟨g7.trans g6.symm, fun a j e => ?_⟩ ?_
      · simp only [Bool.or_eq_false_iff] at e
        exact kt a j e.1.1.1 e.1.1.2 e.1.2 (by intro q; obtain ⟨rfl, rfl | rfl⟩ := q <;> cases e.2)
      · intro a j q
        simp only [DHou, Bool.or_eq_true, Bool.and_eq_true, beq_iff_eq] at q
        rcases hp with rfl | rfl <;> rcases hr with rfl | rfl <;> rcases q with (((((((((((((⟨rfl, rfl⟩ | rfl) | rfl) | rfl) | ⟨rfl, rfl⟩) | rfl) | rfl) | rfl) | rfl) | rfl) | rfl) | rfl) | rfl) | rfl) <;> rfl
  · rw [if_neg vz] at rN
    obtain ⟨τ2, y, K2, -, rM⟩ := ref σ2 (fun k => k2a 108 k (by rcases hp with rfl | rfl <;> rfl)) (fun k => k2a 102 k (by rcases hp with rfl | rfl <;> rfl))
    rw [if_neg vz] at rM
    refine ⟨zI v, σ2, _, r, p, l, rN, rM, ?_⟩
    have F : Fr (fun a k => spP p a || (a == 5 || SMk a k || SMper a k || (a == 102 && k == 7))) σ (sI τ2 102 7 (zI 0)) := by
      have F0 : Fr (fun a k => spP p a || (a == 5 || SMk a k || SMper a k || (a == 102 && k == 7))) σ σ2 := ⟨F2.1.trans F1.1, fun a k e => k2a a k (by simp only [Bool.or_eq_false_iff] at e ⊢; exact ⟨e.1, e.2.1.1.1⟩)⟩
      refine (F0.tr (K2.mono fun a k e => ?_)).sI _ (by simp)
      simp only [Bool.or_eq_false_iff] at e ⊢
      exact ⟨e.2.1.1.2, e.2.1.2⟩
    obtain ⟨σ7, G1, G2⟩ := F.cut
    refine (h.spareP G1).took G2 ?_ ?_ (by rcases hb.2.2 with rfl | rfl <;> rfl) (by rcases hb.2.2 with rfl | rfl <;> repeat (first | exact trivial | refine ⟨fun _ => rfl, ?_⟩ | refine ⟨rfl, ?_⟩)) ?_ (rd_of (x := 7) (v := 0) (sI_same _ _ _ _) (by decide) (by decide))
    · repeat (first | exact trivial | refine ⟨fun _ => rfl, ?_⟩ | refine ⟨rfl, ?_⟩)
    · repeat (first | exact trivial | refine ⟨fun _ => rfl, ?_⟩ | refine ⟨rfl, ?_⟩)
    · refine rd_of (x := 1) ?_ (by decide) (by decide)
      rw [sI_row _ _ _ _ _ (by decide)]
      exact (K2.2 5 1 rfl).trans e251
