/-! law: pieces that wait -/
theorem ep0_eq (d : Nat) (σ : Sg) : f_M_endsPiece (d + 1) σ = f_M_endsPiece_0 d σ := (f_M_endsPiece_eq d σ).trans (f_M_endsPiece_0_eq d σ).symm
theorem ln0_eq (d : Nat) (a : Int32) (x : Value) (σ : Sg) : f_M_lands (d + 1) a σ = f_M_lands_0 d a x σ := (f_M_lands_eq d a σ).trans (f_M_lands_0_eq d a x σ).symm
theorem ep_step {n : Int} {T : Int → Int} {pl o s wt : Int} {K : KK} {Wt : Int → Int} {τ : Sg} (h : ML n T pl (o + 1) s K (wt + 1) (mup Wt wt (1048576 * 10)) τ) (hb : BW wt Wt) (w0 : 0 ≤ wt) (w1 : wt < 260) (s0 : 0 ≤ s) (s1 : s < 260) {e : Nat} : ∃ τ', f_M_endsPiece (e + 2) τ = f_M_endsPiece (e + 2) τ' ∧ Fr SLm τ τ' ∧ ML n T pl o (s + 1) (kPut K s 33 0 (1048576 * 10)) wt Wt τ' := by
  have t : wtop (wt + 1) (mup Wt wt (1048576 * 10)) = 10 := by rw [wtop_up w0]; omega
  have W := waitTop_sp h (hb.up (by omega) (by omega)) (by omega) (by omega) (d := e)
  rw [t] at W
  obtain ⟨τ1, a1, a2, a3, -⟩ := notes_sp (op := 10) (v := 0) (c := 33) (w := 0) h s0 s1 (d := e)
  rw [show (1048576 * 10 + 0 : Int) = 1048576 * 10 by omega] at a3
  refine ⟨sI (sI τ1 102 14 (zI wt)) 102 12 (zI o), ?_, (a2.sI _ rfl).sI _ rfl, open_ML (pop_ML a3)⟩
  rw [f_M_endsPiece_eq, W, cI_rI, show (10 : Int32) = zI 10 from zI_lit 10, if_pos rfl, zI_0, a1, cV_rV]
  dsimp only
  rw [a3.2.2.2.1, sI_slot _ _ _ _ (by decide), a3.2.1, show (1 : Int32) = zI 1 from zI_lit 1, zI_sub, zI_sub, show wt + 1 - 1 = wt by omega, show o + 1 - 1 = o by omega]
  exact (ep0_eq (e + 1) _).symm
theorem ep_stop {n : Int} {T : Int → Int} {pl o s wt : Int} {K : KK} {Wt : Int → Int} {τ : Sg} (h : ML n T pl o s K wt Wt τ) (hb : BW wt Wt) (w0 : 0 ≤ wt) (w1 : wt ≤ 260) (ht : wtop wt Wt ≠ 10) {e : Nat} : f_M_endsPiece (e + 2) τ = rV τ := by
  have b := wtop_b hb w0
  rw [f_M_endsPiece_eq, waitTop_sp h hb w0 w1, cI_rI, show (10 : Int32) = zI 10 from zI_lit 10, if_neg (by rw [zI_eq (by omega) (by decide)]; exact ht)]
theorem ln_step {n : Int} {T : Int → Int} {pl o s wt a op all : Int} {K K1 : KK} {Wt : Int → Int} {τ : Sg} (h : ML n T pl o s K1 (wt + 1) (mup Wt wt (1048576 * op + a)) τ) (hb : BW wt Wt) (w0 : 0 ≤ wt) (w1 : wt < 260) (s1 : s < 260) (a0 : 0 ≤ a) (a1 : a < s) (hop : op = 11 ∨ op = 12 ∧ all = 1) (hall : all = 0 ∨ all = 1) (e1 : K1.2.2 a = 1048576 * op) (e : ∀ j, 0 ≤ j → j < s → K.2.2 j = if j = a then 1048576 * op + s else K1.2.2 j) {d : Nat} {x : Value} : ∃ τ' y, f_M_lands_0 (d + 1) (zI all) x τ = f_M_lands_0 (d + 1) (zI all) y τ' ∧ Fr SLm τ τ' ∧ ML n T pl o s K wt Wt τ' := by
  have t : wtop (wt + 1) (mup Wt wt (1048576 * op + a)) = op := by rw [wtop_up w0]; omega
  have hb1 : BW (wt + 1) (mup Wt wt (1048576 * op + a)) := hb.up (by omega) (by omega)
  have W := waitTop_sp h hb1 (by omega) (by omega) (d := d)
  rw [t] at W
  have r1 : τ.1 110 wt.toNat = zI (1048576 * op + a) := by rw [h.2.2.2.2.2 wt w0 (by omega), mup_same]
  have r2 : τ.1 109 a.toNat = zI (1048576 * op) := by rw [h.2.2.2.2.1 a a0 a1, e1]
  have body : ∀ (F : Value → Sg → Rs), (bnd ((τ.1 102 14) - 1) 260 (rmI (τ.1 110 (ix ((τ.1 102 14) - 1))) 1048576 fun v3 => bnd v3 260 (dvI (τ.1 109 (ix v3)) 1048576 fun v4 => bnd v3 260 (let σ5 := sI τ 109 (ix v3) ((1048576 * v4) + (τ.1 102 13)); let σ6 := sI σ5 102 14 ((σ5.1 102 14) - 1); F (.int v3) σ6)))) = F (.int (zI a)) (sI (sI τ 109 a.toNat (zI (1048576 * op + s))) 102 14 (zI wt)) := fun F => by
    rw [h.2.2.2.1, show (1 : Int32) = zI 1 from zI_lit 1, zI_sub, show wt + 1 - 1 = wt by omega, bnd_zI w0 (by omega) (by omega), ix_zI w0 (by omega), r1, show (1048576 : Int32) = zI 1048576 from zI_lit 1048576, rmI_nn (by omega) (by omega) (by decide) (by decide), show (1048576 * op + a) % 1048576 = a by omega, bnd_zI a0 (by omega) (by omega), ix_zI a0 (by omega), r2, dvI_nn (by omega) (by omega) (by decide) (by decide), show (1048576 * op) / 1048576 = op by omega, bnd_zI a0 (by omega) (by omega), zI_mul, h.2.2.1, zI_add]
    dsimp only
    rw [sI_row _ _ _ _ _ (by decide), h.2.2.2.1, zI_sub, show wt + 1 - 1 = wt by omega]
  have g : ML n T pl o s K (wt + 1) (mup Wt wt (1048576 * op + a)) (sI τ 109 a.toNat (zI (1048576 * op + s))) := ⟨h.1.fr (S := SLm) ((Fr.rf _ τ).sI _ rfl) rfl (fun _ => rfl) ((sI_row _ _ _ _ _ (by decide)).trans h.1.2.1), (sI_row _ _ _ _ _ (by decide)).trans h.2.1, (sI_row _ _ _ _ _ (by decide)).trans h.2.2.1, (sI_row _ _ _ _ _ (by decide)).trans h.2.2.2.1, fun j j0 j1 => by
    rw [e j j0 j1]
    by_cases z : j = a
    · subst z; rw [if_pos rfl, sI_same]
    · rw [if_neg z, sI_slot _ _ _ _ (by omega)]; exact h.2.2.2.2.1 j j0 j1, fun j j0 j1 => (sI_row _ _ _ _ _ (by decide)).trans (h.2.2.2.2.2 j j0 j1)⟩
  refine ⟨sI (sI τ 109 a.toNat (zI (1048576 * op + s))) 102 14 (zI wt), .int (zI a), ?_, ((Fr.rf _ τ).sI _ rfl).sI _ rfl, pop_ML g⟩
  rw [f_M_lands_0_eq, W, cI_rI, show (11 : Int32) = zI 11 from zI_lit 11, ifEq (by omega) (by decide)]
  by_cases z : op = 11
  · rw [if_pos z]
    exact body fun y τ => f_M_lands_0 (d + 1) (zI all) y τ
  · rw [if_neg z, ifE0 (by omega), if_neg (by omega), W, cI_rI, show (12 : Int32) = zI 12 from zI_lit 12, ifEq (by omega) (by decide), if_pos (by omega)]
    exact body fun y τ => f_M_lands_0 (d + 1) (zI all) y τ
theorem ln_stop {n : Int} {T : Int → Int} {pl o s wt all : Int} {K : KK} {Wt : Int → Int} {τ : Sg} (h : ML n T pl o s K wt Wt τ) (hb : BW wt Wt) (w0 : 0 ≤ wt) (w1 : wt ≤ 260) (hall : all = 0 ∨ all = 1) (ht : wtop wt Wt ≠ 11) (ht2 : all = 0 ∨ wtop wt Wt ≠ 12) {d : Nat} {x : Value} : f_M_lands_0 (d + 1) (zI all) x τ = rV τ := by
  have b := wtop_b hb w0
  have W := waitTop_sp h hb w0 w1 (d := d)
  rw [f_M_lands_0_eq, W, cI_rI, show (11 : Int32) = zI 11 from zI_lit 11, ifEq (by omega) (by decide), if_neg ht, ifE0 (by omega)]
  by_cases z : all = 0
  · rw [if_pos z]
  · rw [if_neg z, W, cI_rI, show (12 : Int32) = zI 12 from zI_lit 12, ifEq (by omega) (by decide), if_neg (by omega)]
def LzP (n : Int) (T : Int → Int) (pl o s : Int) (K : KK) (wt : Int) (Wt : Int → Int) (τ : Sg) : Prop := ML n T pl o s K wt Wt τ ∨ ∃ a, 0 ≤ a ∧ a < s ∧ K.2.2 a = 1048576 * 11 + s ∧ ML n T pl o s (kSet K a 0 (1048576 * 11)) (wt + 1) (mup Wt wt (1048576 * 11 + a)) τ
def LzC (n : Int) (T : Int → Int) (pl o s : Int) (K : KK) (wt : Int) (Wt : Int → Int) (τ : Sg) : Prop := LzP n T pl o s K wt Wt τ ∨ ∃ a, 0 ≤ a ∧ a < s ∧ K.2.2 a = 1048576 * 12 + s ∧ LzP n T pl o s (kSet K a 0 (1048576 * 12)) (wt + 1) (mup Wt wt (1048576 * 12 + a)) τ
theorem LzP.cg {n : Int} {T : Int → Int} {pl o s wt : Int} {K K' : KK} {Wt : Int → Int} {τ : Sg} (h : LzP n T pl o s K wt Wt τ) (e : ∀ j, 0 ≤ j → j < s → K'.2.2 j = K.2.2 j) : LzP n T pl o s K' wt Wt τ := by
  rcases h with h | ⟨a, a0, a1, ea, h⟩
  · exact Or.inl (h.cg e fun _ _ _ => rfl)
  · refine Or.inr ⟨a, a0, a1, (e a a0 a1).trans ea, h.cg (fun j j0 j1 => ?_) fun _ _ _ => rfl⟩
    unfold kSet
    dsimp only
    by_cases z : j = a
    · subst z; rw [mup_same, mup_same]
    · rw [mup_ne z, mup_ne z]; exact e j j0 j1
theorem LzP.mp {n : Int} {T : Int → Int} {pl o s wt : Int} {K : KK} {Wt : Int → Int} {τ : Sg} (h : LzP n T pl o s K wt Wt τ) : MP n T pl τ := by
  rcases h with h | ⟨a, a0, a1, ea, h⟩
  · exact h.1
  · exact h.1
theorem LzC.mp {n : Int} {T : Int → Int} {pl o s wt : Int} {K : KK} {Wt : Int → Int} {τ : Sg} (h : LzC n T pl o s K wt Wt τ) : MP n T pl τ := by
  rcases h with h | ⟨a, a0, a1, ea, h⟩
  · exact h.mp
  · exact h.mp
theorem landP {n : Int} {T : Int → Int} {pl o s wt all : Int} {K : KK} {Wt : Int → Int} {τ : Sg} (h : LzP n T pl o s K wt Wt τ) (hb : BW wt Wt) (w0 : 0 ≤ wt) (w1 : wt < 260) (s1 : s < 260) (hall : all = 0 ∨ all = 1) {d : Nat} {x : Value} : ∃ τ' y, f_M_lands_0 (d + 1) (zI all) x τ = f_M_lands_0 (d + 1) (zI all) y τ' ∧ Fr SLm τ τ' ∧ ML n T pl o s K wt Wt τ' := by
  rcases h with h | ⟨a, a0, a1, ea, h⟩
  · exact ⟨τ, x, rfl, Fr.rf _ _, h⟩
  · refine ln_step h hb w0 w1 s1 a0 a1 (Or.inl rfl) hall (mup_same _ _ _) fun j j0 j1 => ?_
    by_cases z : j = a
    · subst z; rw [if_pos rfl, ea]
    · rw [if_neg z]; exact (mup_ne z).symm
theorem landsP {n : Int} {T : Int → Int} {pl o s wt : Int} {K : KK} {Wt : Int → Int} {τ : Sg} (h : LzP n T pl o s K wt Wt τ) (hb : BW wt Wt) (w0 : 0 ≤ wt) (w1 : wt < 260) (s1 : s < 260) (ht : wtop wt Wt ≠ 11) {d : Nat} : ∃ τ', f_M_lands (d + 2) (zI 0) τ = rV τ' ∧ Fr SLm τ τ' ∧ ML n T pl o s K wt Wt τ' := by
  obtain ⟨τ', y, a1, a2, a3⟩ := landP h hb w0 w1 s1 (Or.inl rfl) (d := d) (x := .null)
  exact ⟨τ', by rw [ln0_eq (d + 1) (zI 0) .null, a1, ln_stop a3 hb w0 (by omega) (Or.inl rfl) ht (Or.inl rfl)], a2, a3⟩
theorem landsC {n : Int} {T : Int → Int} {pl o s wt : Int} {K : KK} {Wt : Int → Int} {τ : Sg} (h : LzC n T pl o s K wt Wt τ) (hb : BW wt Wt) (w0 : 0 ≤ wt) (w1 : wt + 1 < 260) (s1 : s < 260) (ht : wtop wt Wt ≠ 11) (ht2 : wtop wt Wt ≠ 12) {d : Nat} : ∃ τ', f_M_lands (d + 2) (zI 1) τ = rV τ' ∧ Fr SLm τ τ' ∧ ML n T pl o s K wt Wt τ' := by
  have fin : ∀ τ' y, ML n T pl o s K wt Wt τ' → f_M_lands_0 (d + 1) (zI 1) y τ' = rV τ' := fun τ' y g => ln_stop g hb w0 (by omega) (Or.inr rfl) ht (Or.inr ht2)
  rcases h with h | ⟨a, a0, a1, ea, h⟩
  · obtain ⟨τ', y, a1, a2, a3⟩ := landP h hb w0 (by omega) s1 (Or.inr rfl) (d := d) (x := .null)
    exact ⟨τ', by rw [ln0_eq (d + 1) (zI 1) .null, a1, fin τ' y a3], a2, a3⟩
  · obtain ⟨τ1, y1, b1, b2, b3⟩ := landP h (hb.up (by omega) (by omega)) (by omega) w1 s1 (Or.inr rfl) (d := d) (x := .null)
    obtain ⟨τ2, y2, c1, c2, c3⟩ := ln_step (K := K) b3 hb w0 (by omega) s1 a0 a1 (Or.inr ⟨rfl, rfl⟩) (Or.inr rfl) (mup_same _ _ _) (fun j j0 j1 => by
      by_cases z : j = a
      · subst z; rw [if_pos rfl, ea]
      · rw [if_neg z]; exact (mup_ne z).symm) (d := d) (x := y1)
    exact ⟨τ2, by rw [ln0_eq (d + 1) (zI 1) .null, b1, c1, fin τ2 y2 c3], b2.tr c2, c3⟩
theorem jumps_sp {n : Int} {T : Int → Int} {pl o s wt op c : Int} {K : KK} {Wt : Int → Int} {τ : Sg} (h : ML n T pl o s K wt Wt τ) (w0 : 0 ≤ wt) (w1 : wt < 260) (s0 : 0 ≤ s) (s1 : s < 260) {d : Nat} : ∃ τ', f_M_jumps (d + 2) (zI op) τ = rV τ' ∧ Fr SLm τ τ' ∧ ML n T (pl + 1) o (s + 1) (kPut K s c 0 (1048576 * op)) (wt + 1) (mup Wt wt (1048576 * op + s)) τ' := by
  obtain ⟨τ1, a1, a2, a3, -⟩ := notes_sp (op := op) (v := 0) (c := c) (w := 0) (push_ML (x := 1048576 * op + s) h) s0 s1 (d := d)
  rw [show (1048576 * op + 0 : Int) = 1048576 * op by omega] at a3
  refine ⟨sI τ1 102 8 (zI (pl + 1)), ?_, ((((Fr.rf SLm τ).sI _ rfl).sI _ rfl).tr a2).sI _ rfl, a3.up (pl + 1)⟩
  rw [f_M_jumps_eq, h.2.2.2.1, bnd_zI w0 (by omega) (by omega), ix_zI w0 (by omega), show (1048576 : Int32) = zI 1048576 from zI_lit 1048576, zI_mul, h.2.2.1, zI_add]
  dsimp only
  rw [sI_row _ _ _ _ _ (by decide), h.2.2.2.1, show (1 : Int32) = zI 1 from zI_lit 1, zI_add, zI_0, a1, cV_rV, a3.1.2.1, zI_add]
/-! the loops of a condition -/
noncomputable def lawC (d : Nat) (τ : Sg) : Rs := f_M_readsCondition_40 (d + 8) τ
noncomputable def lawD (d : Nat) (τ : Sg) : Rs := f_M_readsCondition_92 (d + 8) τ
noncomputable def lawE (d e : Nat) (τ : Sg) : Rs := cV (f_M_endsPiece (e + 2) τ) fun τ => lawD d τ
theorem lawC_sp {n : Int} {T : Int → Int} {pl : Int} {τ : Sg} (h : MP n T pl τ) (hx : TX n T) (p0 : 0 ≤ pl) (p1 : pl ≤ n) {d : Nat} : lawC d τ = if chA n T pl = 33 then (cI (f_M_opens (d + 8) (zI 10) τ) fun v6 σ5 => if v6 = 0 then (rZ 0 σ5) else (lawC d σ5)) else if chA n T pl = 40 then (cI (f_M_opens (d + 8) (zI 13) τ) fun v6 σ5 => if v6 = 0 then (rZ 0 σ5) else (lawC d σ5)) else (cI (f_M_readsCompared (d + 8) τ) fun v18 σ17 => if v18 = 0 then (rZ 0 σ17) else (lawD d σ17)) := by
  obtain ⟨c0, c1, -⟩ := hx.ch p0
  have H := h.here hx p0 p1 (d := d + 7)
  show f_M_readsCondition_40 (d + 8) τ = _
  rw [f_M_readsCondition_40_eq, H, cI_rI, show (33 : Int32) = zI 33 from zI_lit 33, ifEq (by omega) (by decide)]
  by_cases z : chA n T pl = 33
  · rw [if_pos z, if_pos z, H, cI_rI, ifEq (by omega) (by decide), if_pos z, show (10 : Int32) = zI 10 from zI_lit 10]
    rfl
  · rw [if_neg z, if_neg z, H, cI_rI, show (40 : Int32) = zI 40 from zI_lit 40, ifEq (by omega) (by decide)]
    by_cases z2 : chA n T pl = 40
    · rw [if_pos z2, if_pos z2, H, cI_rI, ifEq (by omega) (by decide), if_neg z, show (13 : Int32) = zI 13 from zI_lit 13]
      rfl
    · rw [if_neg z2, if_neg z2]
      rfl
theorem lawD_sp {n : Int} {T : Int → Int} {pl : Int} {τ : Sg} (h : MP n T pl τ) (hx : TX n T) (p0 : 0 ≤ pl) (p1 : pl ≤ n) {d : Nat} : (chA n T pl = 41 → lawD d τ = (cV (f_M_lands (d + 8) (zI 1) τ) fun σ3 => if ((sI (sI (sI σ3 102 14 ((σ3.1 102 14) - 1)) 102 12 (((sI σ3 102 14 ((σ3.1 102 14) - 1)).1 102 12) - 1)) 102 8 (((sI (sI σ3 102 14 ((σ3.1 102 14) - 1)) 102 12 (((sI σ3 102 14 ((σ3.1 102 14) - 1)).1 102 12) - 1)).1 102 8) + 1)).1 102 14) = 0 then (rZ 1 (sI (sI (sI σ3 102 14 ((σ3.1 102 14) - 1)) 102 12 (((sI σ3 102 14 ((σ3.1 102 14) - 1)).1 102 12) - 1)) 102 8 (((sI (sI σ3 102 14 ((σ3.1 102 14) - 1)) 102 12 (((sI σ3 102 14 ((σ3.1 102 14) - 1)).1 102 12) - 1)).1 102 8) + 1))) else (lawE d (d + 6) (sI (sI (sI σ3 102 14 ((σ3.1 102 14) - 1)) 102 12 (((sI σ3 102 14 ((σ3.1 102 14) - 1)).1 102 12) - 1)) 102 8 (((sI (sI σ3 102 14 ((σ3.1 102 14) - 1)) 102 12 (((sI σ3 102 14 ((σ3.1 102 14) - 1)).1 102 12) - 1)).1 102 8) + 1))))) ∧
    (chA n T pl = 38 → lawD d τ = (cV (f_M_lands (d + 8) (zI 0) τ) fun σ17 => cI (f_M_here (d + 8) σ17) fun v19 σ18 => if v19 = 38 then (cV (f_M_jumps (d + 8) 11 σ18) fun σ20 => lawC d σ20) else (cV (f_M_jumps (d + 8) 12 σ18) fun σ21 => lawC d σ21))) ∧
    (chA n T pl = 124 → lawD d τ = (cV (f_M_lands (d + 8) (zI 1) τ) fun σ17 => cI (f_M_here (d + 8) σ17) fun v19 σ18 => if v19 = 38 then (cV (f_M_jumps (d + 8) 11 σ18) fun σ20 => lawC d σ20) else (cV (f_M_jumps (d + 8) 12 σ18) fun σ21 => lawC d σ21))) ∧
    (chA n T pl ≠ 41 → chA n T pl ≠ 38 → chA n T pl ≠ 124 → lawD d τ = rI (zI 0) (sI τ 102 10 (zI (-1000 - pl)))) := by
  obtain ⟨c0, c1, -⟩ := hx.ch p0
  have H := h.here hx p0 p1 (d := d + 7)
  have st : lawD d τ = _ := f_M_readsCondition_92_eq (d + 8) τ
  rw [H, cI_rI] at st
  refine ⟨fun z => ?_, fun z => ?_, fun z => ?_, fun z1 z2 z3 => ?_⟩
  · rw [st, z, show (41 : Int32) = zI 41 from zI_lit 41, if_pos rfl, show (1 : Int32) = zI 1 from zI_lit 1]
    rfl
  · rw [st, z, show (41 : Int32) = zI 41 from zI_lit 41, if_neg (by decide), H, cI_rI, z, show (38 : Int32) = zI 38 from zI_lit 38, if_pos rfl, H, cI_rI, z, show (124 : Int32) = zI 124 from zI_lit 124, if_neg (by decide), zI_0]
    rfl
  · rw [st, z, show (41 : Int32) = zI 41 from zI_lit 41, if_neg (by decide), H, cI_rI, z, show (38 : Int32) = zI 38 from zI_lit 38, if_neg (by decide), H, cI_rI, z, show (124 : Int32) = zI 124 from zI_lit 124, if_pos rfl, H, cI_rI, z, if_pos rfl, show (1 : Int32) = zI 1 from zI_lit 1]
    rfl
  · rw [st, show (41 : Int32) = zI 41 from zI_lit 41, ifEq (by omega) (by decide), if_neg z1, H, cI_rI, show (38 : Int32) = zI 38 from zI_lit 38, ifEq (by omega) (by decide), if_neg z2, H, cI_rI, show (124 : Int32) = zI 124 from zI_lit 124, ifEq (by omega) (by decide), if_neg z3, h.2.1, show (1 : Int32) = zI 1 from zI_lit 1, wrongAt_sp, cI_rI, rZ_z0]
    rfl
theorem lawD_and {n : Int} {T : Int → Int} {pl o s wt : Int} {K : KK} {Wt : Int → Int} {τ : Sg} (hx : TX n T) (p0 : 0 ≤ pl) (p1 : pl ≤ n) (h : LzP n T pl o s K wt Wt τ) (hc : chA n T pl = 38) (hb : BW wt Wt) (w0 : 0 ≤ wt) (w1 : wt < 260) (s0 : 0 ≤ s) (s1 : s < 260) (ht : wtop wt Wt ≠ 11) {d : Nat} : ∃ τ', lawD d τ = lawC d τ' ∧ Fr SLm τ τ' ∧ ML n T (pl + 1) o (s + 1) (kPut K s 38 0 (1048576 * 11)) (wt + 1) (mup Wt wt (1048576 * 11 + s)) τ' := by
  obtain ⟨τ1, a1, a2, a3⟩ := landsP h hb w0 w1 s1 ht (d := d + 6)
  have a1 : f_M_lands (d + 8) (zI 0) τ = rV τ1 := a1
  obtain ⟨τ2, b1, b2, b3⟩ := jumps_sp (op := 11) (c := 38) a3 w0 w1 s0 s1 (d := d + 6)
  have b1 : f_M_jumps (d + 8) (zI 11) τ1 = rV τ2 := b1
  have H := a3.1.here hx p0 p1 (d := d + 7)
  exact ⟨τ2, by rw [(lawD_sp h.mp hx p0 p1).2.1 hc, a1, cV_rV, H, cI_rI, hc, show (38 : Int32) = zI 38 from zI_lit 38, if_pos rfl, show (11 : Int32) = zI 11 from zI_lit 11, b1, cV_rV], a2.tr b2, b3⟩
theorem lawD_or {n : Int} {T : Int → Int} {pl o s wt : Int} {K : KK} {Wt : Int → Int} {τ : Sg} (hx : TX n T) (p0 : 0 ≤ pl) (p1 : pl ≤ n) (h : LzC n T pl o s K wt Wt τ) (hc : chA n T pl = 124) (hb : BW wt Wt) (w0 : 0 ≤ wt) (w1 : wt + 1 < 260) (s0 : 0 ≤ s) (s1 : s < 260) (ht : wtop wt Wt ≠ 11) (ht2 : wtop wt Wt ≠ 12) {d : Nat} : ∃ τ', lawD d τ = lawC d τ' ∧ Fr SLm τ τ' ∧ ML n T (pl + 1) o (s + 1) (kPut K s 124 0 (1048576 * 12)) (wt + 1) (mup Wt wt (1048576 * 12 + s)) τ' := by
  obtain ⟨τ1, a1, a2, a3⟩ := landsC h hb w0 w1 s1 ht ht2 (d := d + 6)
  have a1 : f_M_lands (d + 8) (zI 1) τ = rV τ1 := a1
  obtain ⟨τ2, b1, b2, b3⟩ := jumps_sp (op := 12) (c := 124) a3 w0 (by omega) s0 s1 (d := d + 6)
  have b1 : f_M_jumps (d + 8) (zI 12) τ1 = rV τ2 := b1
  have H := a3.1.here hx p0 p1 (d := d + 7)
  exact ⟨τ2, by rw [(lawD_sp h.mp hx p0 p1).2.2.1 hc, a1, cV_rV, H, cI_rI, hc, show (38 : Int32) = zI 38 from zI_lit 38, if_neg (by decide), show (12 : Int32) = zI 12 from zI_lit 12, b1, cV_rV], a2.tr b2, b3⟩
theorem lawD_cl {n : Int} {T : Int → Int} {pl o s wt : Int} {K : KK} {Wt : Int → Int} {τ : Sg} (hx : TX n T) (p0 : 0 ≤ pl) (p1 : pl ≤ n) (h : LzC n T pl (o + 1) s K (wt + 1) (mup Wt wt (1048576 * 13)) τ) (hc : chA n T pl = 41) (hb : BW wt Wt) (w0 : 0 ≤ wt) (w1 : wt + 2 < 260) (s1 : s < 260) {d : Nat} : ∃ τ', (wt = 0 → lawD d τ = rI (zI 1) τ') ∧ (wt ≠ 0 → lawD d τ = lawE d (d + 6) τ') ∧ Fr SLm τ τ' ∧ ML n T (pl + 1) o s K wt Wt τ' := by
  have t : wtop (wt + 1) (mup Wt wt (1048576 * 13)) = 13 := by rw [wtop_up w0]; omega
  obtain ⟨τ1, a1, a2, a3⟩ := landsC h (hb.up (by omega) (by omega)) (by omega) (by omega) s1 (by omega) (by omega) (d := d + 6)
  have a1 : f_M_lands (d + 8) (zI 1) τ = rV τ1 := a1
  have e1 : (sI (sI (sI τ1 102 14 ((τ1.1 102 14) - 1)) 102 12 (((sI τ1 102 14 ((τ1.1 102 14) - 1)).1 102 12) - 1)) 102 8 (((sI (sI τ1 102 14 ((τ1.1 102 14) - 1)) 102 12 (((sI τ1 102 14 ((τ1.1 102 14) - 1)).1 102 12) - 1)).1 102 8) + 1)) = sI (sI (sI τ1 102 14 (zI wt)) 102 12 (zI o)) 102 8 (zI (pl + 1)) := by
    rw [a3.2.2.2.1, sI_slot _ _ _ _ (show (12 : Nat) ≠ 14 by decide), a3.2.1, sI_slot _ _ _ _ (show (8 : Nat) ≠ 12 by decide), sI_slot _ _ _ _ (show (8 : Nat) ≠ 14 by decide), a3.1.2.1, show (1 : Int32) = zI 1 from zI_lit 1, zI_sub, zI_sub, zI_add, show wt + 1 - 1 = wt by omega, show o + 1 - 1 = o by omega]
  have g : ML n T (pl + 1) o s K wt Wt (sI (sI (sI τ1 102 14 (zI wt)) 102 12 (zI o)) 102 8 (zI (pl + 1))) := (open_ML (pop_ML a3)).up (pl + 1)
  have st := (lawD_sp h.mp hx p0 p1 (d := d)).1 hc
  rw [a1, cV_rV, e1, g.2.2.2.1, ifE0 (by omega)] at st
  refine ⟨_, fun z => ?_, fun z => ?_, ((a2.sI _ rfl).sI _ rfl).sI _ rfl, g⟩
  · rw [st, if_pos z]; rfl
  · rw [st, if_neg z]
