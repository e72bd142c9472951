/-! settle: takeIn -/
def S79 (a _k : Nat) : Bool := a == 79
def S768 (a _k : Nat) : Bool := a == 76 || a == 80 || a == 81
theorem PX.f79 {r p : Nat} {n m : Int} {W H C M S T F G D : Int → Int} {σ σ' : Sg} (h : PX r p n m W H C M S T F G D σ) (K : Fr S79 σ σ') : PX r p n m W H C M S T F G D σ' := h.fr (K.mono fun a k e => by simp only [SHo, Bool.or_eq_false_iff] at e; exact e.1.1.2)
theorem PX.f768 {r p : Nat} {n m : Int} {W H C M S T F G D : Int → Int} {σ σ' : Sg} (h : PX r p n m W H C M S T F G D σ) (K : Fr S768 σ σ') : PX r p n m W H C M S T F G D σ' := h.fr (K.mono fun a k e => by simp only [SHo, S768, Bool.or_eq_false_iff] at e ⊢; exact ⟨⟨e.1.1.1.1.1.2, e.1.2⟩, e.2⟩)
def OfB (m : Int) (T hd g : Int → Int) (h : Int) (s : Int32) : Prop := ∀ y, 0 ≤ y → y < 32 → (gb s y = true ↔ y < m ∧ hd y = h ∧ 0 ≤ T y ∧ T y ≠ g y)
theorem takeOff_sp {r p : Nat} {n m : Int} {W H C M S T F G D hd : Int → Int} {σ : Sg} (hx : PX r p n m W H C M S T F G D σ) (ho : HdOk m F G D hd) (hh : ∀ y, 0 ≤ y → y < m → σ.1 77 y.toNat = zI (hd y)) {d : Nat} {g : Int → Int} (hg : ∀ y, 0 ≤ y → y < m → σ.1 78 y.toNat = zI (g y)) (hb : ∀ y, 0 ≤ y → y < m → -1 ≤ g y ∧ g y < n) : ∃ σ', f_Houses_takeIn (d + 3) p σ = f_Houses_takeIn_67 (d + 2) p (zI 0) .null σ' ∧ Fr S79 σ σ' ∧ ∀ h, 0 ≤ h → h < m → OfB m T hd g h (σ'.1 79 h.toNat) := by
  obtain ⟨nm, ⟨n0, n6⟩, m0, m24⟩ := hx.nm
  have hP := hx.1
  have ok := hx.2.2.2.2.2
  have main : ∀ (k : Nat) (q : Int) (τ : Sg), q + k = m → 0 ≤ q → Fr S79 σ τ → (∀ h, 0 ≤ h → h < m → OfB q T hd g h (τ.1 79 h.toNat)) → ∃ τ', f_Houses_takeIn_10 (d + 2) p (zI q) .null τ = f_Houses_takeIn_67 (d + 2) p (zI 0) .null τ' ∧ Fr S79 σ τ' ∧ ∀ h, 0 ≤ h → h < m → OfB m T hd g h (τ'.1 79 h.toNat) := by
    intro k
    induction k with
    | zero =>
      intro q τ hq q0 K hf
      have : q = m := by omega
      subst this
      exact ⟨τ, by rw [f_Houses_takeIn_10_eq, gfI_of hP.s0, (hx.f79 K).e0, if_neg Int32.lt_irrefl, zI_0], K, hf⟩
    | succ k ih =>
      intro q τ hq q0 K hf
      have q1 : q < m := by omega
      have h1 := hx.f79 K
      have hc := h1.2.2.2.2.1.2.2
      obtain ⟨s01, ⟨t0, t1, t2⟩, -⟩ := ok.bd n6 q0 q1
      have ob := ho q q0 q1
      have bq := hb q q0 q1
      have e78 : τ.1 78 q.toNat = zI (g q) := (K.2 _ _ rfl).trans (hg q q0 q1)
      have e77 : τ.1 77 q.toNat = zI (hd q) := (K.2 _ _ rfl).trans (hh q q0 q1)
      have stay : ¬ (0 ≤ T q ∧ T q ≠ g q) → ∃ τ', f_Houses_takeIn_10 (d + 2) p (zI (q + 1)) .null τ = f_Houses_takeIn_67 (d + 2) p (zI 0) .null τ' ∧ Fr S79 σ τ' ∧ ∀ h, 0 ≤ h → h < m → OfB m T hd g h (τ'.1 79 h.toNat) := fun no =>
        ih (q + 1) τ (by omega) (by omega) K fun h h0 h1 y y0 y1 => (hf h h0 h1 y y0 y1).trans ⟨fun ⟨z1, z2⟩ => ⟨by omega, z2⟩, fun ⟨z1, z2, z3⟩ => ⟨by
          have : y ≠ q := fun e => by subst e; exact no z3
          omega, z2, z3⟩⟩
      rw [f_Houses_takeIn_10_eq, gfI_of hP.s0, h1.e0, if_pos (by rw [zI_le (by omega) (by omega)]; exact q1), gfS_of hP.s0, ofs_4_2, ldi_of hP.s2 q0 (by omega) (by omega), (hc q q0).2.1]
      simp only [show (0 : Int32) = zI 0 from zI_0, show (1 : Int32) = zI 1 from zI_lit 1, show (31 : Int32) = zI 31 from zI_lit 31, zI_add, bnd_zI q0 (show q < (24 : Nat) by omega) (show q < 2147483648 by omega), ix_zI q0 (show q < 2147483648 by omega), e77, e78, bnd_zI ob.1 (show hd q < (24 : Nat) by omega) (show hd q < 2147483648 by omega), ix_zI ob.1 (show hd q < 2147483648 by omega)]
      by_cases tz : T q < 0
      · rw [if_pos (by rw [zI_le (by omega) (by decide)]; exact tz)]
        exact stay fun z => by omega
      · rw [if_neg (by rw [zI_le (by omega) (by decide)]; exact tz), gfS_of hP.s0, ofs_4_2, ldi_of hP.s2 q0 (by omega) (by omega), (hc q q0).2.1]
        by_cases te : T q = g q
        · rw [if_pos (congrArg zI te)]
          exact stay fun z => z.2 te
        · rw [if_neg (by rw [zI_eq (by omega) (by omega)]; exact te)]
          refine ih (q + 1) (sI τ 79 (hd q).toNat (τ.1 79 (hd q).toNat ||| (zI 1 <<< (zI q &&& zI 31)))) (by omega) (by omega) (K.sI _ rfl) fun h h0 h1 y y0 y1 => ?_
          by_cases e : h = hd q
          · subst e
            rw [sI_same, gb_or, Bool.or_eq_true, hf _ h0 h1 y y0 y1, gb_sh q0 (by omega) y0 y1, decide_eq_true_eq]
            constructor
            · rintro (⟨z1, z2⟩ | rfl)
              · exact ⟨by omega, z2⟩
              · exact ⟨by omega, rfl, by omega, te⟩
            · rintro ⟨z1, z2⟩
              by_cases e : y = q
              · exact Or.inr e
              · exact Or.inl ⟨by omega, z2⟩
          · rw [sI_slot _ _ _ _ (by omega), hf _ h0 h1 y y0 y1]
            exact ⟨fun ⟨z1, z2⟩ => ⟨by omega, z2⟩, fun ⟨z1, z2, z3⟩ => ⟨by
              have : y ≠ q := fun u => by subst u; exact e z2.symm
              omega, z2, z3⟩⟩
  obtain ⟨σ1, a1, a2, K1, -⟩ := fill_sp (a := 79) (n := 24) rfl (by decide) (v := zI 0) (σ := σ) (d := d + 1)
  obtain ⟨τ', b1, b2⟩ := main m.toNat 0 σ1 (by omega) (by decide) K1 fun h h0 h1 y y0 y1 => by
    rw [a2 _ (by omega), gb_0]
    exact ⟨fun q => absurd q Bool.false_ne_true, fun q => by omega⟩
  refine ⟨τ', ?_, b2⟩
  have a1 : f_Arrays_fill_2I (d + 2) 79 (zI 0) σ = rV σ1 := a1
  rw [f_Houses_takeIn_eq, zI_0, a1, cV_rV]
  exact b1
def n76 (hd g : Int → Int) (s : Int32) (of : Int → Int32) (u : Int → Int32) (y : Int) : Int32 := if gb s (hd y) = false ∧ of (hd y) = zI 0 then u y ||| (zI 1 <<< (zI (g y) &&& zI 31)) else u y
def takeA (hd : Int → Int) (s : Int32) (of : Int → Int32) (fw : Int → Int) (y : Int) : Prop := gb s (hd y) = false ∧ hd y = y ∧ cnt (gb (of y)) 24 < fw y
noncomputable def n80 (hd : Int → Int) (s : Int32) (of : Int → Int32) (fw : Int → Int) (y : Int) : Int := by classical exact if takeA hd s of fw y then cnt (gb (of y)) 24 else fw y
noncomputable def n81 (hd : Int → Int) (s : Int32) (of : Int → Int32) (fw : Int → Int) (gn : Int → Int32) (y : Int) : Int32 := by classical exact if takeA hd s of fw y then of y else gn y
theorem takeIn67_sp {r p : Nat} {n m : Int} {W H C M S T F G D hd : Int → Int} {σ : Sg} (hx : PX r p n m W H C M S T F G D σ) (ho : HdOk m F G D hd) (hh : ∀ y, 0 ≤ y → y < m → σ.1 77 y.toNat = zI (hd y)) {d : Nat} {g fw : Int → Int} {of u gn : Int → Int32} {s : Int32} (hg : ∀ y, 0 ≤ y → y < m → σ.1 78 y.toNat = zI (g y)) (h79 : ∀ h, 0 ≤ h → h < m → σ.1 79 h.toNat = of h) (hof : ∀ h, 0 ≤ h → h < m → OfB m T hd g h (of h)) (h75 : σ.1 75 6 = s) (h76 : ∀ y, 0 ≤ y → y < m → σ.1 76 y.toNat = u y) (h80 : ∀ y, 0 ≤ y → y < m → σ.1 80 y.toNat = zI (fw y) ∧ 0 ≤ fw y ∧ fw y ≤ 25) (h81 : ∀ y, 0 ≤ y → y < m → σ.1 81 y.toNat = gn y) {v : Value} : ∃ σ', f_Houses_takeIn_67 (d + 2) p (zI 0) v σ = rV σ' ∧ Fr S768 σ σ' ∧ ∀ y, 0 ≤ y → y < m → σ'.1 76 y.toNat = n76 hd g s of u y ∧ σ'.1 80 y.toNat = zI (n80 hd s of fw y) ∧ σ'.1 81 y.toNat = n81 hd s of fw gn y := by
  obtain ⟨nm, ⟨n0, n6⟩, m0, m24⟩ := hx.nm
  have hP := hx.1
  have ok := hx.2.2.2.2.2
  let IV := fun (q : Int) (τ : Sg) => (∀ y, 0 ≤ y → y < q → y < m → τ.1 76 y.toNat = n76 hd g s of u y ∧ τ.1 80 y.toNat = zI (n80 hd s of fw y) ∧ τ.1 81 y.toNat = n81 hd s of fw gn y) ∧ ∀ y, q ≤ y → y < m → τ.1 76 y.toNat = u y ∧ τ.1 80 y.toNat = zI (fw y) ∧ τ.1 81 y.toNat = gn y
  have main : ∀ (k : Nat) (q : Int) (τ : Sg) (v : Value), q + k = m → 0 ≤ q → Fr S768 σ τ → IV q τ → ∃ τ', f_Houses_takeIn_67 (d + 2) p (zI q) v τ = rV τ' ∧ Fr S768 σ τ' ∧ IV m τ' := by
    intro k
    induction k with
    | zero =>
      intro q τ v hq q0 K hf
      have : q = m := by omega
      subst this
      exact ⟨τ, by rw [f_Houses_takeIn_67_eq, gfI_of hP.s0, (hx.f768 K).e0, if_neg Int32.lt_irrefl], K, hf⟩
    | succ k ih =>
      intro q τ v hq q0 K hf
      have q1 : q < m := by omega
      have h1 := hx.f768 K
      obtain ⟨o0, o1, -⟩ := ho q q0 q1
      have e78 : τ.1 78 q.toNat = zI (g q) := (K.2 _ _ rfl).trans (hg q q0 q1)
      have e77 : τ.1 77 q.toNat = zI (hd q) := (K.2 _ _ rfl).trans (hh q q0 q1)
      have e79 : τ.1 79 (hd q).toNat = of (hd q) := (K.2 _ _ rfl).trans (h79 _ o0 (by omega))
      have e75 : τ.1 75 6 = s := (K.2 _ _ rfl).trans h75
      obtain ⟨i76, i80, i81⟩ := hf.2 q (Int.le_refl _) q1
      -- the next state, from the three cells at q
      have nx : ∀ τ' : Sg, Fr S768 τ τ' → (∀ y, 0 ≤ y → y ≠ q → y < m → τ'.1 76 y.toNat = τ.1 76 y.toNat ∧ τ'.1 80 y.toNat = τ.1 80 y.toNat ∧ τ'.1 81 y.toNat = τ.1 81 y.toNat) → τ'.1 76 q.toNat = n76 hd g s of u q → τ'.1 80 q.toNat = zI (n80 hd s of fw q) → τ'.1 81 q.toNat = n81 hd s of fw gn q → ∀ v, ∃ τ2, f_Houses_takeIn_67 (d + 2) p (zI (q + 1)) v τ' = rV τ2 ∧ Fr S768 σ τ2 ∧ IV m τ2 := fun τ' K' h1 h2 h3 h4 v => by
        refine ih (q + 1) τ' v (by omega) (by omega) (K.tr K') ⟨fun y y0 y1 y2 => ?_, fun y y0 y1 => ?_⟩
        · by_cases e : y = q
          · subst e; exact ⟨h2, h3, h4⟩
          · obtain ⟨a1, a2, a3⟩ := h1 y y0 e y2
            rw [a1, a2, a3]; exact hf.1 y y0 (by omega) y2
        · obtain ⟨a1, a2, a3⟩ := h1 y (by omega) (by omega) y1
          rw [a1, a2, a3]; exact hf.2 y (by omega) y1
      have cb := hof _ o0 (show hd q < m by omega)
      have bc := fun τ' : Sg => bitCount_sp (σ := τ') (d := d + 1) (s := of (hd q)) fun y y0 y1 => by
        cases z : gb (of (hd q)) y with
        | false => rfl
        | true => have := ((cb y (by omega) y1).mp z).1; omega
      have cn := cnt_nn (gb (of (hd q))) 24
      -- the second half
      have tl : ∀ τ' : Sg, Fr S768 τ τ' → (∀ y, 0 ≤ y → y ≠ q → y < m → τ'.1 76 y.toNat = τ.1 76 y.toNat) → τ'.1 76 q.toNat = n76 hd g s of u q → τ'.1 80 = τ.1 80 → τ'.1 81 = τ.1 81 → gb s (hd q) = false → ∃ τ2, (if zI (hd q) = zI q then (cI (f_Integer_bitCount (d + 2) (τ'.1 79 (hd q).toNat) τ') fun v4 σ3 => if v4 < (σ3.1 80 (hd q).toNat) then (cI (f_Integer_bitCount (d + 2) (σ3.1 79 (hd q).toNat) σ3) fun v6 σ5 => f_Houses_takeIn_67 (d + 2) p (zI (q + 1)) (.int (zI (hd q))) (sI (sI σ5 80 (hd q).toNat v6) 81 (hd q).toNat ((sI σ5 80 (hd q).toNat v6).1 79 (hd q).toNat))) else f_Houses_takeIn_67 (d + 2) p (zI (q + 1)) (.int (zI (hd q))) σ3) else f_Houses_takeIn_67 (d + 2) p (zI (q + 1)) (.int (zI (hd q))) τ') = rV τ2 ∧ Fr S768 σ τ2 ∧ IV m τ2 := fun τ' K' h1 h2 h3 h4 hb => by
        by_cases z : hd q = q
        · have c79 : τ'.1 79 (hd q).toNat = of (hd q) := (K'.2 _ _ rfl).trans e79
          have c80 : τ'.1 80 (hd q).toNat = zI (fw q) := by rw [h3, z]; exact i80
          have fb := (h80 q q0 q1).2
          rw [if_pos (congrArg zI z), c79, bc τ', cI_rI, c80]
          by_cases lt : cnt (gb (of q)) 24 < fw q
          · have tk : takeA hd s of fw q := ⟨hb, z, lt⟩
            rw [if_pos (by rw [zI_le (by omega) (by omega), z]; exact lt), c79, bc τ', cI_rI, show (sI τ' 80 (hd q).toNat (zI (cnt (gb (of (hd q))) 24))).1 79 (hd q).toNat = of (hd q) from (sI_row _ _ _ _ _ (by decide)).trans c79, z]
            refine nx _ ((K'.sI _ rfl).sI _ rfl) (fun y y0 ne ym => ⟨?_, ?_, ?_⟩) ?_ ?_ ?_ _
            · rw [sI_row _ _ _ _ _ (by decide), sI_row _ _ _ _ _ (by decide)]; exact h1 y y0 ne ym
            · rw [sI_row _ _ _ _ _ (by decide), sI_slot _ _ _ _ (by omega), h3]
            · rw [sI_slot _ _ _ _ (by omega), sI_row _ _ _ _ _ (by decide), h4]
            · rw [sI_row _ _ _ _ _ (by decide), sI_row _ _ _ _ _ (by decide)]; exact h2
            · rw [sI_row _ _ _ _ _ (by decide), sI_same]; unfold n80; rw [if_pos tk]
            · rw [sI_same]; unfold n81; rw [if_pos tk]
          · have tk : ¬ takeA hd s of fw q := fun t => lt t.2.2
            rw [if_neg (by rw [zI_le (by omega) (by omega), z]; exact lt)]
            refine nx _ K' (fun y y0 ne ym => ⟨h1 y y0 ne ym, by rw [h3], by rw [h4]⟩) h2 ?_ ?_ _
            · rw [h3, i80]; unfold n80; rw [if_neg tk]
            · rw [h4, i81]; unfold n81; rw [if_neg tk]
        · have tk : ¬ takeA hd s of fw q := fun t => z t.2.1
          rw [if_neg (by rw [zI_eq (by omega) (by omega)]; exact z)]
          refine nx _ K' (fun y y0 ne ym => ⟨h1 y y0 ne ym, by rw [h3], by rw [h4]⟩) h2 ?_ ?_ _
          · rw [h3, i80]; unfold n80; rw [if_neg tk]
          · rw [h4, i81]; unfold n81; rw [if_neg tk]
      rw [f_Houses_takeIn_67_eq, gfI_of hP.s0, h1.e0, if_pos (by rw [zI_le (by omega) (by omega)]; exact q1)]
      simp only [show (0 : Int32) = zI 0 from zI_0, show (1 : Int32) = zI 1 from zI_lit 1, show (31 : Int32) = zI 31 from zI_lit 31, zI_add, bnd_zI q0 (show q < (24 : Nat) by omega) (show q < 2147483648 by omega), ix_zI q0 (show q < 2147483648 by omega), e75, e77, e78, e79, i76, bnd_zI o0 (show hd q < (24 : Nat) by omega) (show hd q < 2147483648 by omega), ix_zI o0 (show hd q < 2147483648 by omega)]
      rw [sh_bz s o0 (by omega)]
      cases b : gb s (hd q) with
      | true =>
        rw [bz_tt, if_neg (by decide)]
        have tk : ¬ takeA hd s of fw q := fun t => by rw [t.1] at b; cases b
        refine nx _ (Fr.rf _ _) (fun y y0 ne ym => ⟨rfl, rfl, rfl⟩) ?_ ?_ ?_ _
        · rw [i76]; unfold n76; rw [if_neg (fun t => by rw [t.1] at b; cases b)]
        · rw [i80]; unfold n80; rw [if_neg tk]
        · rw [i81]; unfold n81; rw [if_neg tk]
      | false =>
        rw [bz_ff, if_pos (by decide)]
        by_cases oz : of (hd q) = zI 0
        · rw [if_pos oz]
          exact tl (sI τ 76 q.toNat (u q ||| (zI 1 <<< (zI (g q) &&& zI 31)))) ((Fr.rf _ _).sI _ rfl) (fun y y0 ne ym => sI_slot _ _ _ _ (by omega)) (by rw [sI_same]; unfold n76; rw [if_pos ⟨b, oz⟩]) (funext fun j => sI_row _ _ _ _ _ (by decide)) (funext fun j => sI_row _ _ _ _ _ (by decide)) b
        · rw [if_neg oz]
          have := tl τ (Fr.rf _ _) (fun y y0 ne ym => rfl) (by rw [i76]; unfold n76; rw [if_neg (fun t => oz t.2)]) rfl rfl b
          rw [e79] at this
          exact this
  obtain ⟨σ', a1, a2, a3⟩ := main m.toNat 0 σ v (by omega) (by decide) (Fr.rf _ _) ⟨fun y y0 y1 => by omega, fun y y0 y1 => ⟨h76 y y0 y1, (h80 y y0 y1).1, h81 y y0 y1⟩⟩
  exact ⟨σ', a1, a2, fun y y0 y1 => a3.1 y y0 y1 y1⟩
