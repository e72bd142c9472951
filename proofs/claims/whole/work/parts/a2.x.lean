/-! a roll: read in both -/
def RelOk (P : Nat) (m : Int) (S F G D : Int → Int) (σ : Sg) : Prop := (∀ y, 0 ≤ y → y < 32 → (gb (σ.1 P 8) y = true ↔ y < m ∧ S y = 0) ∧ (gb (σ.1 P 9) y = true ↔ y < m ∧ D y ≠ -1)) ∧ ∀ x, 0 ≤ x → x < m → (∀ y, 0 ≤ y → y < 32 → (gb (σ.1 (P + 6) x.toNat) y = true ↔ y < m ∧ (F y = x ∨ G y = x)) ∧ (gb (σ.1 (P + 7) x.toNat) y = true ↔ y < m ∧ SibP F G x y))
def SRol (P a k : Nat) : Bool := SRper P a k || SRel P a k || (a == P && k == 0)
theorem endT_sp {n pl : Int} {T : Int → Int} {σ : Sg} (h : CP n T pl σ) (n0 : 0 ≤ n) (n1 : n ≤ 260) (p0 : 0 ≤ pl) (p1 : pl ≤ n) {d : Nat} : f_Tape_end (d + 2) σ = rI (zI (if pl < n then -1000 - pl else 0)) σ := by
  rw [f_Tape_end_eq, h.2, h.1.2.1, ifLe (by omega) (by omega)]
  by_cases q : pl < n
  · rw [if_pos q, if_pos q, show (1 : Int32) = zI 1 from zI_lit 1, tfaultZ h.2, cI_rI]; rfl
  · rw [if_neg q, if_neg q, zI_0]
noncomputable def mRun (d : Nat) (x1 x3 : Value) (τ : Sg) : Rs := cI (f_M_readsPerson d τ) fun v σ => f_M_roll_44 d x1 v x3 σ
theorem roll44_0 {d : Nat} {x1 x3 : Value} {τ : Sg} : f_M_roll_44 d x1 (zI 0) x3 τ = rI (τ.1 102 10) (sI τ 102 7 (zI 0)) := by
  rw [f_M_roll_44_eq, if0z]
  dsimp only
  rw [if0z, sI_slot _ _ _ _ (by decide), zI_0]
theorem roll44_1 {n pl : Int} {T : Int → Int} {d : Nat} {x1 x3 : Value} {τ : Sg} (h : MP n T pl τ) (hx : TX n T) (p0 : 0 ≤ pl) (p1 : pl ≤ n) : f_M_roll_44 (d + 6) x1 (zI 1) x3 τ = if pl < n then (if chA n T pl = 59 then (cI (f_M_readsPerson (d + 6) (sI τ 102 8 (zI (pl + 1)))) fun v6 σ5 => if v6 = 0 then (f_M_roll_44 (d + 6) (nlg x1) 0 (x3) σ5) else (f_M_roll_44 (d + 6) (nlg x1) 1 (x3) σ5)) else rI (zI (-1000 - pl)) (sI (sI τ 102 10 (zI (-1000 - pl))) 102 7 (zI 0))) else f_M_roll_108 (d + 6) x1 (.int (zI 1)) (zI 0) (sI (sI τ 102 7 (zI 0)) 102 69 (τ.1 102 70)) := by
  have n260 := hx.2.1
  rw [f_M_roll_44_eq, if1z, h.2.1, h.2.2, ifLe (by omega) (by omega)]
  by_cases q : pl < n
  · rw [if_pos q, if_pos q, show (59 : Int32) = zI 59 from zI_lit 59, takes_sp h hx p0 p1 (by decide) (by decide)]
    by_cases w : chA n T pl = 59
    · rw [if_pos w, if_pos w, cI_rI, if1z]
    · rw [if_neg w, if_neg w, cI_rI, if0z, zI_0, roll44_0, sI_same]
  · rw [if_neg q, if_neg q]
    dsimp only
    rw [if1z, sI_slot _ _ _ _ (by decide), zI_0]
theorem rollBoth {n names : Int} {T : Int → Int} {P : Nat} (hP : isP P) (hx : TX n T) (k0 : 0 ≤ names) (k6 : names ≤ 6) (d d2 : Nat) : ∀ (b : Nat) (pl m : Int) (S L F G D : Int → Int), n - pl ≤ b → 0 ≤ pl → pl ≤ n → RlOk names m S L F G D → ∃ (v m' : Int) (S' L' F' G' D' : Int → Int), -10000 < v ∧ v ≤ 0 ∧ (v = 0 → RlOk names m' S' L' F' G' D') ∧
    (∀ σ, CP n T pl σ → σ.1 P 0 = zI m → RoN P m S L F G D σ → ∃ σ', (∀ x4, f_Roll_read_7 (d + 5) P (zI names) (zI m) x4 σ = rI (zI v) σ') ∧ Fr (SRol P) σ σ' ∧ (v = 0 → σ'.1 P 0 = zI m' ∧ RoN P m' S' L' F' G' D' σ' ∧ RelOk P m' S' F' G' D' σ')) ∧
    (∀ τ, MP n T pl τ → τ.1 102 70 = zI m → τ.1 102 5 = zI names → RoNw m S L F G D τ → ∃ τ', (∀ x1 x3, ∃ y, mRun (d2 + 6) x1 x3 τ = if v = 0 then f_M_roll_108 (d2 + 6) y (.int (zI 1)) (zI 0) (sI (sI τ' 102 7 (zI 0)) 102 69 (zI m')) else rI (zI v) (sI τ' 102 7 (zI 0))) ∧ Fr SMper τ τ' ∧ (v = 0 → RoNw m' S' L' F' G' D' τ')) := by
  have n260 := hx.2.1
  intro b
  induction b with
  | zero =>
    intro pl m S L F G D hb p0 p1 ok
    obtain ⟨v, s, t, f1, g1, d1, pl', b1, b2, b3, hN, hM⟩ := personBoth hP hx p0 p1 k0 k6 ok d d2
    have v0 : v ≠ 0 := fun z => by have := (b3 z).2.2.2.2.2.2; omega
    refine ⟨v, 0, S, L, F, G, D, b1, b2, fun z => absurd z v0, fun σ h e ro => ?_, fun τ h e ek ro => ?_⟩
    · obtain ⟨σ', a1, a2, -⟩ := hN σ h e ro
      refine ⟨σ', fun x4 => ?_, a2.mono fun a k z => by simp only [SRol, Bool.or_eq_false_iff] at z; exact z.1.1, fun z => absurd z v0⟩
      rw [f_Roll_read_7_eq, show (24 : Int32) = zI 24 from zI_lit 24, if_neg (by rw [zI_le (by decide) (by have := ok.1; have := ok.2.1; omega)]; have := ok.2.1; omega), gdK_of hP.s0, a1, cI_rI, ifV b2 b1, if_neg v0]
    · obtain ⟨τ', a1, a2, a3, -⟩ := hM τ h e ek ro
      refine ⟨τ', fun x1 x3 => ⟨x1, ?_⟩, a2, fun z => absurd z v0⟩
      unfold mRun
      rw [a1, cI_rI, bzn (by omega), roll44_0, a3 (by omega), if_neg v0]
  | succ b ih =>
    intro pl m S L F G D hb p0 p1 ok
    obtain ⟨v, s, t, f1, g1, d1, pl', b1, b2, b3, hN, hM⟩ := personBoth hP hx p0 p1 k0 k6 ok d d2
    have m0 := ok.1
    have m24 := ok.2.1
    have ent : ∀ (σ : Sg) (x4 : Value), f_Roll_read_7 (d + 5) P (zI names) (zI m) x4 σ = (cI (f_Roll_readPerson (d + 5) P (zI names) σ) fun v5 σ4 => if v5 = 0 then (gfI 4 P 0 σ4 fun v6 => pfI 4 P 0 (v6 + 1) σ4 fun σ7 => cI (f_Tape_now (d + 5) σ7) fun v9 σ8 => if v9 = 59 then (let σ10 := sI σ8 5 4 ((σ8.1 5 4) + 1); f_Roll_read_7 (d + 5) P (zI names) (zI m + 1) (.int v5) σ10) else (gdK 4 P (cV (f_Roll_relateAll (d + 5) P σ8) fun σ11 => cI (f_Tape_end (d + 5) σ11) fun v13 σ12 => rI v13 σ12))) else (rI v5 σ4)) := fun σ x4 => by
      rw [f_Roll_read_7_eq, show (24 : Int32) = zI 24 from zI_lit 24, if_neg (by rw [zI_le (by decide) (by omega)]; omega), gdK_of hP.s0]
    by_cases v0 : v = 0
    · subst v0
      obtain ⟨c24, cs, ct, cf, cg, cd, l0, l1⟩ := b3 rfl
      have ok' := ok.next ⟨c24, cs, ct, cf, cg, cd⟩
      obtain ⟨c0, c1, c2⟩ := hx.ch (show 0 ≤ pl' by omega)
      have aN : ∀ σ, CP n T pl σ → σ.1 P 0 = zI m → RoN P m S L F G D σ → ∃ σ', Fr (SRol P) σ σ' ∧ CP n T pl' σ' ∧ σ'.1 P 0 = zI (m + 1) ∧ RoN P (m + 1) (mup S m s) (mup L m t) (mup F m f1) (mup G m g1) (wD D m d1) σ' ∧ ∀ x4, f_Roll_read_7 (d + 5) P (zI names) (zI m) x4 σ = if chA n T pl' = 59 then f_Roll_read_7 (d + 5) P (zI names) (zI (m + 1)) (.int (zI 0)) (sI σ' 5 4 (zI (pl' + 1))) else (cV (f_Roll_relateAll (d + 5) P σ') fun σ11 => cI (f_Tape_end (d + 5) σ11) fun v13 σ12 => rI v13 σ12) := fun σ h e ro => by
        obtain ⟨σ1, a1, a2, a3⟩ := hN σ h e ro
        obtain ⟨e4, r1, r2, r3, r4, r5⟩ := a3 rfl
        have e0 : σ1.1 P 0 = zI m := (a2.2 _ _ (by rcases hP with rfl | rfl <;> simp [SRper, SRn])).trans e
        have F1 : Fr (SRol P) σ (sI σ1 P 0 (zI (m + 1))) := (a2.mono fun a k z => by simp only [SRol, Bool.or_eq_false_iff] at z; exact z.1.1).sI _ (by simp [SRol])
        have h1 : CP n T pl' (sI σ1 P 0 (zI (m + 1))) := h.fr F1 (by rcases hP with rfl | rfl <;> simp [SRol, SRper, SRn, SRel]) (by rcases hP with rfl | rfl <;> simp [SRol, SRper, SRn, SRel]) (fun k => by rcases hP with rfl | rfl <;> simp [SRol, SRper, SRn, SRel]) ((sI_row _ _ _ _ _ (by rcases hP with rfl | rfl <;> decide)).trans e4)
        refine ⟨_, F1, h1, sI_same _ _ _ _, ⟨fun x x0 x1 => (sI_row _ _ _ _ _ (by omega)).trans (r1 x x0 x1), fun x x0 x1 => (sI_row _ _ _ _ _ (by omega)).trans (r2 x x0 x1), fun x x0 x1 => (sI_row _ _ _ _ _ (by omega)).trans (r3 x x0 x1), fun x x0 x1 => (sI_row _ _ _ _ _ (by omega)).trans (r4 x x0 x1), fun x x0 x1 => (sI_row _ _ _ _ _ (by omega)).trans (r5 x x0 x1)⟩, fun x4 => ?_⟩
        rw [ent, a1, cI_rI, if0z, gfI_of hP.s0, e0, show (1 : Int32) = zI 1 from zI_lit 1, zI_add, pfI_of hP.s0, h1.now hx (by omega) l1, cI_rI, show (59 : Int32) = zI 59 from zI_lit 59, ifEq (by omega) (by decide)]
        by_cases w : chA n T pl' = 59
        · rw [if_pos w, if_pos w]
          dsimp only
          rw [h1.2, zI_add]
        · rw [if_neg w, if_neg w, gdK_of hP.s0]
      have aM : ∀ τ, MP n T pl τ → τ.1 102 70 = zI m → τ.1 102 5 = zI names → RoNw m S L F G D τ → ∃ τ', Fr SMper τ τ' ∧ MP n T pl' τ' ∧ τ'.1 102 70 = zI (m + 1) ∧ RoNw (m + 1) (mup S m s) (mup L m t) (mup F m f1) (mup G m g1) (wD D m d1) τ' ∧ ∀ x1 x3, mRun (d2 + 6) x1 x3 τ = f_M_roll_44 (d2 + 6) x1 (zI 1) x3 τ' := fun τ h e ek ro => by
        obtain ⟨τ1, a1, a2, -, a3⟩ := hM τ h e ek ro
        obtain ⟨e4, e5, r⟩ := a3 rfl
        refine ⟨τ1, a2, h.fr a2 rfl (fun _ => rfl) e4, e5, r, fun x1 x3 => ?_⟩
        unfold mRun
        rw [a1, cI_rI, bzz]
      by_cases w : chA n T pl' = 59
      · have l2 : pl' < n := c2 (by omega)
        obtain ⟨v', m', S', L', F', G', D', d1', d2', d3, iN, iM⟩ := ih (pl' + 1) (m + 1) _ _ _ _ _ (by omega) (by omega) (by omega) ok'
        refine ⟨v', m', S', L', F', G', D', d1', d2', d3, fun σ h e ro => ?_, fun τ h e ek ro => ?_⟩
        · obtain ⟨σ1, F1, h1, e1, r1, run⟩ := aN σ h e ro
          have G1 : Fr (SRol P) σ1 (sI σ1 5 4 (zI (pl' + 1))) := (Fr.rf _ σ1).sI _ (by simp [SRol, SRper, SRn])
          obtain ⟨σ2, x1, x2, x3⟩ := iN _ (h1.up (pl' + 1)) ((sI_row _ _ _ _ _ (by rcases hP with rfl | rfl <;> decide)).trans e1) ⟨fun x x0 x1 => (sI_row _ _ _ _ _ (by rcases hP with rfl | rfl <;> decide)).trans (r1.1 x x0 x1), fun x x0 x1 => (sI_row _ _ _ _ _ (by rcases hP with rfl | rfl <;> decide)).trans (r1.2.1 x x0 x1), fun x x0 x1 => (sI_row _ _ _ _ _ (by rcases hP with rfl | rfl <;> decide)).trans (r1.2.2.1 x x0 x1), fun x x0 x1 => (sI_row _ _ _ _ _ (by rcases hP with rfl | rfl <;> decide)).trans (r1.2.2.2.1 x x0 x1), fun x x0 x1 => (sI_row _ _ _ _ _ (by rcases hP with rfl | rfl <;> decide)).trans (r1.2.2.2.2 x x0 x1)⟩
          exact ⟨σ2, fun x4 => by rw [run, if_pos w, x1], (F1.tr G1).tr x2, x3⟩
        · obtain ⟨τ1, F1, h1, e1, r1, run⟩ := aM τ h e ek ro
          have G1 : Fr SMper τ1 (sI τ1 102 8 (zI (pl' + 1))) := (Fr.rf _ τ1).sI _ rfl
          obtain ⟨τ2, x1, x2, x3⟩ := iM _ (h1.up (pl' + 1)) ((sI_slot _ _ _ _ (by decide)).trans e1) ((sI_slot _ _ _ _ (by decide)).trans ((F1.2 _ _ rfl).trans ek)) ⟨fun x x0 x1 => (sI_row _ _ _ _ _ (by decide)).trans (r1.1 x x0 x1), fun x x0 x1 => (sI_row _ _ _ _ _ (by decide)).trans (r1.2.1 x x0 x1), fun x x0 x1 => (sI_row _ _ _ _ _ (by decide)).trans (r1.2.2.1 x x0 x1), fun x x0 x1 => (sI_row _ _ _ _ _ (by decide)).trans (r1.2.2.2.1 x x0 x1), fun x x0 x1 => (sI_row _ _ _ _ _ (by decide)).trans (r1.2.2.2.2 x x0 x1)⟩
          refine ⟨τ2, fun y1 y3 => ?_, (F1.tr G1).tr x2, x3⟩
          obtain ⟨y, hy⟩ := x1 (nlg y1) y3
          refine ⟨y, ?_⟩
          rw [run, roll44_1 h1 hx (by omega) l1, if_pos l2, if_pos w, ← hy]
          unfold mRun
          obtain ⟨τ3, u, z1⟩ : ∃ τ3, ∃ u : Int, f_M_readsPerson (d2 + 6) (sI τ1 102 8 (zI (pl' + 1))) = rI (bz (decide (u = 0))) τ3 := by
            obtain ⟨u, _, _, _, _, _, _, _, _, _, _, hM'⟩ := personBoth hP hx (show 0 ≤ pl' + 1 by omega) (by omega) k0 k6 ok' d d2
            obtain ⟨τ3, z1, -⟩ := hM' _ (h1.up (pl' + 1)) ((sI_slot _ _ _ _ (by decide)).trans e1) ((sI_slot _ _ _ _ (by decide)).trans ((F1.2 _ _ rfl).trans ek)) ⟨fun x x0 x1 => (sI_row _ _ _ _ _ (by decide)).trans (r1.1 x x0 x1), fun x x0 x1 => (sI_row _ _ _ _ _ (by decide)).trans (r1.2.1 x x0 x1), fun x x0 x1 => (sI_row _ _ _ _ _ (by decide)).trans (r1.2.2.1 x x0 x1), fun x x0 x1 => (sI_row _ _ _ _ _ (by decide)).trans (r1.2.2.2.1 x x0 x1), fun x x0 x1 => (sI_row _ _ _ _ _ (by decide)).trans (r1.2.2.2.2 x x0 x1)⟩
            exact ⟨τ3, u, z1⟩
          rw [z1, cI_rI, cI_rI, ifBz]
          by_cases uz : u = 0
          · rw [if_pos uz, decide_eq_true uz, bz_tt, show (1 : Int32) = zI 1 from zI_lit 1]
          · rw [if_neg uz, decide_eq_false uz, bz_ff, zI_0]
      · have fin : (if pl' < n then -1000 - pl' else 0 : Int) = (if pl' < n then -1000 - pl' else 0) := rfl
        generalize hv : (if pl' < n then -1000 - pl' else 0 : Int) = v at fin
        have vb : -10000 < v ∧ v ≤ 0 ∧ (v = 0 ↔ ¬ pl' < n) := by subst hv; split <;> omega
        refine ⟨v, m + 1, mup S m s, mup L m t, mup F m f1, mup G m g1, wD D m d1, vb.1, vb.2.1, fun _ => ok', fun σ h e ro => ?_, fun τ h e ek ro => ?_⟩
        · obtain ⟨σ1, F1, h1, e1, r1, run⟩ := aN σ h e ro
          have bnds := ok'.2.2
          obtain ⟨σ2, x1, x2, x3⟩ := relate_sp hP (show 0 ≤ m + 1 by omega) (show m + 1 ≤ 24 by omega) (fun y y0 y1 => (bnds y y0 y1).1) (fun y y0 y1 => by have := (bnds y y0 y1).2.2.2.1; omega) (fun y y0 y1 => by have := (bnds y y0 y1).2.2.2.2.1; omega) (fun y y0 y1 => by have := (bnds y y0 y1).2.2.2.2.2; omega) e1 r1.1 r1.2.2.1 r1.2.2.2.1 r1.2.2.2.2 (d := d + 3)
          have h2 : CP n T pl' σ2 := h1.fr x2 (by rcases hP with rfl | rfl <;> simp [SRel]) (by rcases hP with rfl | rfl <;> simp [SRel]) (fun k => by rcases hP with rfl | rfl <;> simp [SRel]) ((x2.2 _ _ (by rcases hP with rfl | rfl <;> simp [SRel])).trans h1.2)
          have keep : ∀ a k, (a = P ∧ k = 0 ∨ a = P + 1 ∨ a = P + 2 ∨ a = P + 3 ∨ a = P + 4 ∨ a = P + 5) → σ2.1 a k = σ1.1 a k := fun a k q => x2.2 a k (by rcases q with ⟨rfl, rfl⟩ | rfl | rfl | rfl | rfl | rfl <;> simp [SRel])
          refine ⟨σ2, fun x4 => ?_, F1.tr (x2.mono fun a k z => by simp only [SRol, Bool.or_eq_false_iff] at z; exact z.1.2), fun _ => ⟨(keep _ _ (by simp)).trans e1, ⟨fun x x0 x1 => (keep _ _ (by simp)).trans (r1.1 x x0 x1), fun x x0 x1 => (keep _ _ (by simp)).trans (r1.2.1 x x0 x1), fun x x0 x1 => (keep _ _ (by simp)).trans (r1.2.2.1 x x0 x1), fun x x0 x1 => (keep _ _ (by simp)).trans (r1.2.2.2.1 x x0 x1), fun x x0 x1 => (keep _ _ (by simp)).trans (r1.2.2.2.2 x x0 x1)⟩, x3⟩⟩
          have x1 : f_Roll_relateAll (d + 5) P σ1 = rV σ2 := x1
          have x5 : f_Tape_end (d + 5) σ2 = rI (zI v) σ2 := by rw [← hv]; exact endT_sp h2 hx.1 n260 (by omega) l1 (d := d + 3)
          rw [run, if_neg w, x1, cV_rV, x5, cI_rI]
        · obtain ⟨τ1, F1, h1, e1, r1, run⟩ := aM τ h e ek ro
          by_cases q : pl' < n
          · refine ⟨sI τ1 102 10 (zI (-1000 - pl')), fun y1 y3 => ⟨y1, ?_⟩, F1.sI _ rfl, fun z => absurd q (vb.2.2.mp z)⟩
            rw [run, roll44_1 h1 hx (by omega) l1, if_pos q, if_neg w, if_neg (fun z => vb.2.2.mp z q), ← hv, if_pos q]
          · refine ⟨τ1, fun y1 y3 => ⟨y1, ?_⟩, F1, fun _ => r1⟩
            rw [run, roll44_1 h1 hx (by omega) l1, if_neg q, if_pos (vb.2.2.mpr q), e1]
    · refine ⟨v, 0, S, L, F, G, D, b1, b2, fun z => absurd z v0, fun σ h e ro => ?_, fun τ h e ek ro => ?_⟩
      · obtain ⟨σ', a1, a2, -⟩ := hN σ h e ro
        refine ⟨σ', fun x4 => ?_, a2.mono fun a k z => by simp only [SRol, Bool.or_eq_false_iff] at z; exact z.1.1, fun z => absurd z v0⟩
        rw [ent, a1, cI_rI, ifV b2 b1, if_neg v0]
      · obtain ⟨τ', a1, a2, a3, -⟩ := hM τ h e ek ro
        refine ⟨τ', fun x1 x3 => ⟨x1, ?_⟩, a2, fun z => absurd z v0⟩
        unfold mRun
        rw [a1, cI_rI, bzn (by omega), roll44_0, a3 (by omega), if_neg v0]
