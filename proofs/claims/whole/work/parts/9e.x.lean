/-! weddings: one more, in both -/
def SMc (a _k : Nat) : Bool := a == 84 || a == 85 || a == 86
def SMm (a _k : Nat) : Bool := a == 155 || a == 156 || a == 157
theorem bit_test {u s : Int32} {w : Int} (w0 : 0 ≤ w) (w1 : w < 32) : ((u &&& (s ^^^ zI (-1))) &&& (zI 1 <<< (zI w &&& zI 31)) = zI 0) ↔ ¬ (gb u w = true ∧ gb s w = false) := by
  rw [and_some]
  refine not_congr ⟨?_, ?_⟩
  · rintro ⟨y, y0, y1, a, b⟩
    rw [gb_sh w0 w1 y0 y1, decide_eq_true_eq] at b
    subst b
    rw [gb_and, gb_not _ w0 w1, Bool.and_eq_true, Bool.not_eq_true'] at a
    exact a
  · rintro ⟨a, b⟩
    refine ⟨w, w0, w1, ?_, ?_⟩
    · rw [gb_and, gb_not _ w0 w1, a, b]; rfl
    · rw [gb_sh w0 w1 w0 w1]; exact decide_eq_true rfl
theorem many_le {m : Int} {S : Int → Int} {q : Nat → Int} {many : Nat} (h1 : ∀ j, j < many → 0 ≤ q j ∧ q j < m ∧ S (q j) = 0) (h2 : ∀ i j, i < j → j < many → q i ≠ q j) {w : Int} (w0 : 0 ≤ w) (w1 : w < m) (sw : S w = 1) : (many : Int) + 1 ≤ m := by
  rcases Int.lt_or_le m ((many : Int) + 1) with z | z
  · obtain ⟨i, j, ij, hj, e⟩ := php m.toNat (fun j => if j < many then q j else w) fun i hi => by
      show 0 ≤ (if i < many then q i else w) ∧ (if i < many then q i else w) < _
      by_cases y : i < many
      · rw [if_pos y]; have := h1 i y; omega
      · rw [if_neg y]; omega
    have e : (if i < many then q i else w) = (if j < many then q j else w) := e
    by_cases y : j < many
    · rw [if_pos y, if_pos (by omega)] at e
      exact absurd e (h2 i j ij y)
    · rw [if_neg y, if_pos (by omega)] at e
      have := (h1 i (by omega)).2.2
      rw [e] at this; omega
  · exact z
def CwC (m : Int) (pt ab : Int → Int) (q : Nat → Int) (many : Nat) (sc : Int32) (σ : Sg) : Prop := (∀ y, 0 ≤ y → y < m → σ.1 84 y.toNat = zI (pt y)) ∧ (∀ y, 0 ≤ y → y < m → gb sc y = true → σ.1 85 y.toNat = zI (ab y)) ∧ ∀ j, j < many → σ.1 86 j = zI (q j)
def CwM (m : Int) (pt ab : Int → Int) (q : Nat → Int) (many : Nat) (sc : Int32) (σ : Sg) : Prop := (∀ y, 0 ≤ y → y < m → σ.1 155 y.toNat = zI (pt y)) ∧ (∀ y, 0 ≤ y → y < m → gb sc y = true → σ.1 156 y.toNat = zI (ab y)) ∧ ∀ j, j < many → σ.1 157 j = zI (q j)
def FwP (m : Int) (S pt : Int → Int) (man : Int) (fin : Int → Int) : Prop := MtJ m S fin (-1) ∧ ∀ y, 0 ≤ y → y < m → S y = 0 → fin y ≠ -1 → pt y ≠ -1 ∨ y = man
theorem oneMore {m : Int} {S pt : Int → Int} {μ : Int → Int32} (m0 : 0 ≤ m) (m24 : m ≤ 24) (S01 : ∀ y, 0 ≤ y → y < m → S y = 0 ∨ S y = 1) (hμ : ∀ x y, 0 ≤ x → x < m → 0 ≤ y → y < 32 → gb (μ x) y = true → y < m ∧ S y ≠ S x) (hJ : MtJ m S pt (-1)) {σ0 τ0 : Sg} {d d2 : Nat}
    (hC : ∀ σ, Fr SMc σ0 σ → ∀ x, 0 ≤ x → x < m → σ.1 83 x.toNat = μ x) (hM : ∀ τ, Fr SMm τ0 τ → τ.1 102 69 = zI m ∧ ∀ x, 0 ≤ x → x < m → f_M_whoMayWed (d2 + 1) (zI x) τ = rI (μ x) τ) :
    ∀ (b i : Nat), i + b = 25 → ∀ (sc : Int32) (many : Nat) (q : Nat → Int) (ab : Int → Int), 1 ≤ many → i ≤ many → QuA m S pt ab q many → (∀ j, 1 ≤ j → j < many → gb sc (pt (q j)) = true) → (∀ y, 0 ≤ y → y < 32 → gb sc y = true → y < m) →
    ∃ (bb : Bool) (fin : Int → Int), FwP m S pt (q 0) fin ∧
      (∀ (σ : Sg) (v x6 x7 : Value), Fr SMc σ0 σ → CwC m pt ab q many sc σ → ∃ σ', f_Matches_findFor_15 (d + 1) v (zI m) sc (zI (many : Int)) (zI (i : Int)) x6 x7 σ = rI (bz bb) σ' ∧ Fr SMc σ0 σ' ∧ ∀ y, 0 ≤ y → y < m → σ'.1 84 y.toNat = zI (fin y)) ∧
      (∀ (τ : Sg) (x5 x6 : Value), Fr SMm τ0 τ → CwM m pt ab q many sc τ → ∃ τ', f_M_wedsOneMore_14 (d2 + 1) (zI (q 0)) sc (zI (many : Int)) (zI (i : Int)) x5 x6 τ = rI (bz bb) τ' ∧ Fr SMm τ0 τ' ∧ ∀ y, 0 ≤ y → y < m → τ'.1 155 y.toNat = zI (fin y)) := by
  have ptN : ∀ y, 0 ≤ y → y < m → S y = 0 → pt y ≠ -1 → ∀ x : Int, pt y ≠ -1 ∨ y = x := fun y _ _ _ h x => Or.inl h
  have hJ' : ∀ y, 0 ≤ y → y < m → pt y = -1 ∨ 0 ≤ pt y ∧ pt y < m ∧ pt (pt y) = y ∧ S (pt y) ≠ S y := fun y y0 y1 => by
    rcases hJ y y0 y1 (by omega) with z | ⟨z1, z2, z3, z4, -⟩
    · exact Or.inl z
    · exact Or.inr ⟨z1, z2, z3, z4⟩
  intro b
  induction b with
  | zero =>
    intro i hi sc many q ab m1 im hq hs hsm
    exfalso
    -- a queue of 25 men is too long
    have := php m.toNat q fun j hj => by have := hq.1 j (by omega); omega
    obtain ⟨a, c, ac, hc, e⟩ := this
    exact hq.2.1 a c ac (by omega) e
  | succ b ih =>
    intro i hi sc many q ab m1 im hq hs hsm
    have mm : (many : Int) ≤ m := by
      rcases Int.lt_or_le m (many : Int) with z | z
      · obtain ⟨a, c, ac, hc, e⟩ := php m.toNat q fun j hj => by have := hq.1 j (by omega); omega
        exact absurd e (hq.2.1 a c ac (by omega))
      · exact z
    by_cases iz : i = many
    · subst iz
      refine ⟨false, pt, ⟨hJ, fun y y0 y1 sy ne => Or.inl ne⟩, fun σ v x6 x7 K hc => ⟨σ, ?_, K, hc.1⟩, fun τ x5 x6 K hc => ⟨τ, ?_, K, hc.1⟩⟩
      · rw [f_Matches_findFor_15_eq, if_neg Int32.lt_irrefl]
        split <;> rw [zI_0, rZ_z0] <;> rfl
      · rw [f_M_wedsOneMore_14_eq, if_neg Int32.lt_irrefl, zI_0, rZ_z0]; rfl
    have i1 : i < many := by omega
    obtain ⟨x0, x1, sx⟩ := hq.1 i i1
    -- the row of one who asks
    have row : ∀ (k : Nat) (w : Int) (sc s1 mr : Int32) (many : Nat) (q' : Nat → Int) (ab : Int → Int), w + k = m → 0 ≤ w → i < many → q' 0 = q 0 → q' i = q i → QuA m S pt ab q' many → (∀ j, 1 ≤ j → j < many → gb sc (pt (q' j)) = true) → (∀ y, 0 ≤ y → y < 32 → gb sc y = true → y < m) → (∀ y, 0 ≤ y → y < 32 → gb mr y = true → y < m ∧ S y = 1) → (∀ y, w ≤ y → y < 32 → (gb mr y = true ↔ gb (μ (q i)) y = true ∧ gb sc y = false)) → (∀ y, 0 ≤ y → y < 32 → (gb s1 y = true ↔ gb sc y = true ∨ w ≤ y ∧ gb mr y = true)) →
        ∃ (bb : Bool) (fin : Int → Int), FwP m S pt (q 0) fin ∧
          (∀ (σ : Sg) (v : Value), Fr SMc σ0 σ → CwC m pt ab q' many sc σ → ∃ σ', f_Matches_findFor_41 (d + 1) v (zI m) sc (zI (many : Int)) (zI (i : Int)) (zI (q i)) (zI w) σ = rI (bz bb) σ' ∧ Fr SMc σ0 σ' ∧ ∀ y, 0 ≤ y → y < m → σ'.1 84 y.toNat = zI (fin y)) ∧
          (∀ (τ : Sg), Fr SMm τ0 τ → CwM m pt ab q' many sc τ → ∃ τ', f_M_wedsOneMore_45 (d2 + 1) (zI (q 0)) s1 (zI (many : Int)) (zI (i : Int)) mr (zI w) τ = rI (bz bb) τ' ∧ Fr SMm τ0 τ' ∧ ∀ y, 0 ≤ y → y < m → τ'.1 155 y.toNat = zI (fin y)) := by
      intro k
      induction k with
      | zero =>
        intro w sc s1 mr many q' ab hw w0 im e0 ei hq hs hsm hmr hr hs1
        have : w = m := by omega
        subst this
        have es : s1 = sc := gb_ext fun y y0 y1 => by
          rw [Bool.eq_iff_iff, hs1 y y0 y1]
          exact ⟨fun z => z.elim id fun z => by have := (hmr y y0 y1 z.2).1; omega, Or.inl⟩
        subst es
        have mm : (many : Int) ≤ w := by
          rcases Int.lt_or_le w (many : Int) with z | z
          · obtain ⟨a, c, ac, hc, e⟩ := php w.toNat q' fun j hj => by have := hq.1 j (by omega); omega
            exact absurd e (hq.2.1 a c ac (by omega))
          · exact z
        obtain ⟨bb, fin, f1, f2, f3⟩ := ih (i + 1) (by omega) s1 many q' ab (by omega) (by omega) hq hs hsm
        rw [e0] at f1 f3
        refine ⟨bb, fin, f1, fun σ v K hc => ?_, fun τ K hc => ?_⟩
        · obtain ⟨σ', a1, a2⟩ := f2 σ v (.int (zI (q i))) (.int (zI w)) K hc
          refine ⟨σ', ?_, a2⟩
          rw [f_Matches_findFor_41_eq, if_neg Int32.lt_irrefl, show (1 : Int32) = zI 1 from zI_lit 1, zI_add]
          exact a1
        · obtain ⟨τ', a1, a2⟩ := f3 τ (.int mr) (.int (zI w)) K hc
          refine ⟨τ', ?_, a2⟩
          rw [f_M_wedsOneMore_45_eq, (hM τ K).1, if_neg Int32.lt_irrefl, show (1 : Int32) = zI 1 from zI_lit 1, zI_add]
          exact a1
      | succ k ihk =>
        intro w sc s1 mr many q' ab hw w0 im e0 ei hq hs hsm hmr hr hs1
        have w1 : w < m := by omega
        have hrw := hr w (Int.le_refl _) (by omega)
        have tst := bit_test (u := μ (q i)) (s := sc) w0 (show w < 32 by omega)
        have kC : ∀ (σ : Sg), Fr SMc σ0 σ → σ.1 83 (q i).toNat = μ (q i) := fun σ K => hC σ K _ x0 x1
        cases g : gb mr w with
        | false =>
          have nt : μ (q i) &&& (sc ^^^ zI (-1)) &&& (zI 1 <<< (zI w &&& zI 31)) = zI 0 := tst.mpr fun z => by rw [hrw.mpr z] at g; cases g
          obtain ⟨bb, fin, f1, f2, f3⟩ := ihk (w + 1) sc s1 mr many q' ab (by omega) (by omega) im e0 ei hq hs hsm hmr (fun y y0 y1 => hr y (by omega) y1) (fun y y0 y1 => (hs1 y y0 y1).trans ⟨fun z => z.elim Or.inl fun z => Or.inr ⟨by
            have : y ≠ w := fun e => by rw [e, g] at z; cases z.2
            omega, z.2⟩, fun z => z.elim Or.inl fun z => Or.inr ⟨by omega, z.2⟩⟩)
          refine ⟨bb, fin, f1, fun σ v K hc => ?_, fun τ K hc => ?_⟩
          · obtain ⟨σ', a1, a2⟩ := f2 σ v K hc
            refine ⟨σ', ?_, a2⟩
            rw [f_Matches_findFor_41_eq, if_pos (by rw [zI_le (by omega) (by omega)]; exact w1), bnd_zI x0 (by omega) (by omega), ix_zI x0 (by omega), kC σ K, show (-1 : Int32) = zI (-1) from rfl, show (1 : Int32) = zI 1 from zI_lit 1, show (31 : Int32) = zI 31 from zI_lit 31, zI_0, if_pos nt, zI_add]
            exact a1
          · obtain ⟨τ', a1, a2⟩ := f3 τ K hc
            refine ⟨τ', ?_, a2⟩
            rw [f_M_wedsOneMore_45_eq, (hM τ K).1, if_pos (by rw [zI_le (by omega) (by omega)]; exact w1), hasM_sp ⟨w0, by omega⟩, cI_rI, g, bz_ff, zI_0, if_pos rfl, show (1 : Int32) = zI 1 from zI_lit 1, zI_add]
            exact a1
        | true =>
          obtain ⟨gm, gs⟩ := hrw.mp g
          have sw := (hmr w w0 (by omega) g).2
          have nt : ¬ (μ (q i) &&& (sc ^^^ zI (-1)) &&& (zI 1 <<< (zI w &&& zI 31)) = zI 0) := fun z => tst.mp z ⟨gm, gs⟩
          have ml := many_le hq.1 hq.2.1 w0 w1 sw
          have pw : ∀ j, 1 ≤ j → j < many → pt (q' j) ≠ w := fun j j1 jm e => by
            have := hs j j1 jm
            rw [e, gs] at this; cases this
          have hqa : QuA m S pt (mup ab w (q i)) q' many := ⟨hq.1, hq.2.1, hq.2.2.1, fun j j1 jm => by
            obtain ⟨a1, i', a2, a3⟩ := hq.2.2.2 j j1 jm
            exact ⟨a1, i', a2, by rw [mup_ne (pw j j1 jm)]; exact a3⟩⟩
          have ptw := hJ' w w0 w1
          have headC : ∀ (σ : Sg) (v : Value), Fr SMc σ0 σ → (∀ y, 0 ≤ y → y < m → σ.1 84 y.toNat = zI (pt y)) → f_Matches_findFor_41 (d + 1) v (zI m) sc (zI (many : Int)) (zI (i : Int)) (zI (q i)) (zI w) σ = if zI (pt w) = zI (-1) then (cV (f_Matches_giveWay (d + 1) (zI w) (sI σ 85 w.toNat (zI (q i)))) fun σ2 => rZ (zI 1) σ2) else f_Matches_findFor_41 (d + 1) v (zI m) (sc ||| (zI 1 <<< (zI w &&& zI 31))) (zI ((many : Int) + 1)) (zI (i : Int)) (zI (q i)) (zI (w + 1)) (sI (sI σ 85 w.toNat (zI (q i))) 86 many (zI (pt w))) := fun σ v K h84 => by
            rw [f_Matches_findFor_41_eq, if_pos (by rw [zI_le (by omega) (by omega)]; exact w1), bnd_zI x0 (by omega) (by omega), ix_zI x0 (by omega), kC σ K, show (-1 : Int32) = zI (-1) from rfl, show (1 : Int32) = zI 1 from zI_lit 1, show (31 : Int32) = zI 31 from zI_lit 31, zI_0, if_neg nt, bnd_zI w0 (by omega) (by omega), ix_zI w0 (by omega)]
            simp only [bnd_zI w0 (show w < (24 : Nat) by omega) (show w < 2147483648 by omega), bnd_zI (show (0 : Int) ≤ (many : Int) by omega) (show (many : Int) < (24 : Nat) by omega) (show (many : Int) < 2147483648 by omega), ix_zI (show (0 : Int) ≤ (many : Int) by omega) (show (many : Int) < 2147483648 by omega), Int.toNat_natCast, zI_add]
            rw [show (sI σ 85 w.toNat (zI (q i))).1 84 w.toNat = zI (pt w) from (sI_row _ _ _ _ _ (by decide)).trans (h84 w w0 w1), show (24 : Int32) = zI 24 from zI_lit 24, if_pos (show zI (many : Int) < zI 24 from by rw [zI_le (by omega) (by decide)]; omega)]
          have headM : ∀ (τ : Sg), Fr SMm τ0 τ → (∀ y, 0 ≤ y → y < m → τ.1 155 y.toNat = zI (pt y)) → τ.1 157 i = zI (q i) → f_M_wedsOneMore_45 (d2 + 1) (zI (q 0)) s1 (zI (many : Int)) (zI (i : Int)) mr (zI w) τ = if zI (pt w) = zI (-1) then (cV (f_M_wedsBack (d2 + 1) (zI (q 0)) (zI w) (sI τ 156 w.toNat (zI (q i)))) fun σ4 => rZ (zI 1) σ4) else f_M_wedsOneMore_45 (d2 + 1) (zI (q 0)) s1 (zI ((many : Int) + 1)) (zI (i : Int)) mr (zI (w + 1)) (sI (sI τ 156 w.toNat (zI (q i))) 157 many (zI (pt w))) := fun τ K h155 h157 => by
            rw [f_M_wedsOneMore_45_eq, (hM τ K).1, if_pos (by rw [zI_le (by omega) (by omega)]; exact w1), hasM_sp ⟨w0, by omega⟩, cI_rI, g, bz_tt, zI_0, if_neg (by decide), bnd_zI (by omega) (by omega) (by omega), ix_zI (show (0 : Int) ≤ (i : Int) by omega) (show (i : Int) < 2147483648 by omega), Int.toNat_natCast, h157]
            simp only [bnd_zI w0 (show w < (24 : Nat) by omega) (show w < 2147483648 by omega), ix_zI w0 (show w < 2147483648 by omega), bnd_zI (show (0 : Int) ≤ (many : Int) by omega) (show (many : Int) < (24 : Nat) by omega) (show (many : Int) < 2147483648 by omega), ix_zI (show (0 : Int) ≤ (many : Int) by omega) (show (many : Int) < 2147483648 by omega), Int.toNat_natCast, show (-1 : Int32) = zI (-1) from rfl, show (1 : Int32) = zI 1 from zI_lit 1, zI_add]
            rw [show (sI τ 156 w.toNat (zI (q i))).1 155 w.toNat = zI (pt w) from (sI_row _ _ _ _ _ (by decide)).trans (h155 w w0 w1), show (-zI 1 : Int32) = zI (-1) from rfl]
          by_cases z : pt w = -1
          · have hJw : MtJ m S pt w := fun y y0 y1 ne => by
              rcases hJ' y y0 y1 with u | ⟨u1, u2, u3, u4⟩
              · exact Or.inl u
              · exact Or.inr ⟨u1, u2, u3, u4, fun e => by rw [e, z] at u3; omega⟩
            obtain ⟨fin, f1, f2, f3, f4⟩ := giveBoth m24 hqa (d := d) (d2 := d2) (i + 1) i (Nat.lt_succ_self _) im 0 w pt (by omega) w0 w1 sw (by rw [mup_same, ei]) hJw (fun _ _ => rfl) (fun y y0 y1 sy ne => Or.inl ne)
            rw [e0] at f2 f4
            refine ⟨true, fin, ⟨f1, f2⟩, fun σ v K hc => ?_, fun τ K hc => ?_⟩
            · obtain ⟨σ', a1, a2, a3⟩ := f3 (sI σ 85 w.toNat (zI (q i))) (.int (zI w)) .null .null (fun y y0 y1 => (sI_row _ _ _ _ _ (by decide)).trans (hc.1 y y0 y1)) (fun y hy => by
                by_cases e : y = w
                · subst e; rw [sI_same, mup_same]
                · rcases hy with hy | ⟨j, j1, jm, rfl⟩
                  · exact absurd hy e
                  · obtain ⟨⟨p0, p1, -⟩, -⟩ := hq.2.2.2 j j1 jm
                    rw [sI_slot _ _ _ _ (by omega), mup_ne e]
                    exact hc.2.1 _ p0 p1 (hs j j1 jm))
              refine ⟨σ', ?_, (K.sI _ rfl).tr (a2.mono fun a k e => by simp only [SMc, Bool.or_eq_false_iff] at e; exact e.1.1), a3⟩
              rw [headC σ v K hc.1, if_pos (congrArg zI z), f_Matches_giveWay_eq, zI_0]
              show (cV (f_Matches_giveWay_4 d (.int (zI w)) (zI w) (zI 0) .null .null (sI σ 85 w.toNat (zI (q i)))) fun σ2 => rZ (zI 1) σ2) = _
              have a1 : f_Matches_giveWay_4 d (.int (zI w)) (zI w) (zI 0) .null .null (sI σ 85 w.toNat (zI (q i))) = rV σ' := a1
              rw [a1, cV_rV, rZ_z1]; rfl
            · have e157 : τ.1 157 i = zI (q i) := by rw [hc.2.2 i im, ei]
              obtain ⟨τ', a1, a2, a3⟩ := f4 (sI τ 156 w.toNat (zI (q i))) (.int (zI w)) .null .null (fun y y0 y1 => (sI_row _ _ _ _ _ (by decide)).trans (hc.1 y y0 y1)) (fun y hy => by
                by_cases e : y = w
                · subst e; rw [sI_same, mup_same]
                · rcases hy with hy | ⟨j, j1, jm, rfl⟩
                  · exact absurd hy e
                  · obtain ⟨⟨p0, p1, -⟩, -⟩ := hq.2.2.2 j j1 jm
                    rw [sI_slot _ _ _ _ (by omega), mup_ne e]
                    exact hc.2.1 _ p0 p1 (hs j j1 jm))
              refine ⟨τ', ?_, (K.sI _ rfl).tr (a2.mono fun a k e => by simp only [SMm, Bool.or_eq_false_iff] at e; exact e.1.1), a3⟩
              rw [headM τ K hc.1 e157, if_pos (congrArg zI z), f_M_wedsBack_eq, a1, cV_rV, rZ_z1]; rfl
          · obtain ⟨p0, p1, pp, ps⟩ := ptw.resolve_left z
            have spw : S (pt w) = 0 := by rcases S01 _ p0 p1 with u | u <;> omega
            have newne : ∀ j, j < many → q' j ≠ pt w := fun j jm e => by
              rcases Nat.eq_zero_or_pos j with u | u
              · subst u
                have := hq.2.2.1
                rw [e, pp] at this; omega
              · have := pw j u jm
                rw [e, pp] at this; exact this rfl
            have eo : ∀ j, j < many → (if j = many then pt w else q' j) = q' j := fun j hj => if_neg (by omega)
            obtain ⟨bb, fin, f1, f2, f3⟩ := ihk (w + 1) (sc ||| (zI 1 <<< (zI w &&& zI 31))) s1 mr (many + 1) (fun j => if j = many then pt w else q' j) (mup ab w (q i)) (by omega) (by omega) (by omega) ((eo 0 (by omega)).trans e0) ((eo i im).trans ei) ⟨fun j jm => by
                show 0 ≤ (if j = many then pt w else q' j) ∧ (if j = many then pt w else q' j) < m ∧ S (if j = many then pt w else q' j) = 0
                by_cases u : j = many
                · rw [if_pos u]; exact ⟨p0, p1, spw⟩
                · rw [if_neg u]; exact hq.1 j (by omega), fun a c ac cm => by
                show (if a = many then pt w else q' a) ≠ (if c = many then pt w else q' c)
                rw [eo a (by omega)]
                by_cases u : c = many
                · rw [if_pos u]; exact newne a (by omega)
                · rw [if_neg u]; exact hq.2.1 a c ac (by omega), by
                show pt (if 0 = many then pt w else q' 0) = -1
                rw [eo 0 (by omega)]; exact hq.2.2.1, fun j j1 jm => by
                show (0 ≤ pt (if j = many then pt w else q' j) ∧ pt (if j = many then pt w else q' j) < m ∧ S (pt (if j = many then pt w else q' j)) = 1) ∧ ∃ i', i' < j ∧ mup ab w (q i) (pt (if j = many then pt w else q' j)) = (if i' = many then pt w else q' i')
                by_cases u : j = many
                · rw [if_pos u, pp]
                  exact ⟨⟨w0, w1, sw⟩, i, by omega, by rw [mup_same, eo i im, ei]⟩
                · rw [if_neg u]
                  obtain ⟨a1, i', a2, a3⟩ := hqa.2.2.2 j j1 (by omega)
                  exact ⟨a1, i', a2, by rw [eo i' (by omega)]; exact a3⟩⟩ (fun j j1 jm => by
                show gb _ (pt (if j = many then pt w else q' j)) = true
                rw [gb_or, Bool.or_eq_true]
                by_cases u : j = many
                · rw [if_pos u, pp, gb_sh w0 (by omega) w0 (by omega)]; exact Or.inr (decide_eq_true rfl)
                · rw [if_neg u]; exact Or.inl (hs j j1 (by omega))) (fun y y0 y1 u => by
                rw [gb_or, Bool.or_eq_true, gb_sh w0 (by omega) y0 y1, decide_eq_true_eq] at u
                rcases u with u | u
                · exact hsm y y0 y1 u
                · omega) hmr (fun y y0 y1 => by
                rw [gb_or, Bool.or_eq_false_iff, gb_sh w0 (by omega) (by omega) y1, hr y (by omega) y1]
                exact ⟨fun u => ⟨u.1, u.2, decide_eq_false (by omega)⟩, fun u => ⟨u.1, u.2.1⟩⟩) (fun y y0 y1 => by
                rw [hs1 y y0 y1, gb_or, Bool.or_eq_true, gb_sh w0 (by omega) y0 y1, decide_eq_true_eq]
                constructor
                · rintro (u | ⟨u1, u2⟩)
                  · exact Or.inl (Or.inl u)
                  · by_cases e : y = w
                    · exact Or.inl (Or.inr e)
                    · exact Or.inr ⟨by omega, u2⟩
                · rintro ((u | u) | ⟨u1, u2⟩)
                  · exact Or.inl u
                  · subst u; exact Or.inr ⟨Int.le_refl _, g⟩
                  · exact Or.inr ⟨by omega, u2⟩)
            refine ⟨bb, fin, f1, fun σ v K hc => ?_, fun τ K hc => ?_⟩
            · obtain ⟨σ', a1, a2⟩ := f2 (sI (sI σ 85 w.toNat (zI (q i))) 86 many (zI (pt w))) v ((K.sI _ rfl).sI _ rfl) ⟨fun y y0 y1 => (sI_row _ _ _ _ _ (by decide)).trans ((sI_row _ _ _ _ _ (by decide)).trans (hc.1 y y0 y1)), fun y y0 y1 u => by
                rw [sI_row _ _ _ _ _ (by decide)]
                by_cases e : y = w
                · subst e; rw [sI_same, mup_same]
                · rw [sI_slot _ _ _ _ (by omega), mup_ne e]
                  refine hc.2.1 y y0 y1 ?_
                  rw [gb_or, Bool.or_eq_true, gb_sh w0 (by omega) y0 (by omega), decide_eq_true_eq] at u
                  exact u.resolve_right e, fun j jm => by
                show _ = zI (if j = many then pt w else q' j)
                by_cases e : j = many
                · subst e; rw [sI_same, if_pos rfl]
                · rw [sI_slot _ _ _ _ e, sI_row _ _ _ _ _ (by decide), if_neg e]; exact hc.2.2 j (by omega)⟩
              refine ⟨σ', ?_, a2⟩
              rw [headC σ v K hc.1, if_neg (by rw [zI_eq (by omega) (by decide)]; exact z)]
              exact a1
            · have e157 : τ.1 157 i = zI (q i) := by rw [hc.2.2 i im, ei]
              obtain ⟨τ', a1, a2⟩ := f3 (sI (sI τ 156 w.toNat (zI (q i))) 157 many (zI (pt w))) ((K.sI _ rfl).sI _ rfl) ⟨fun y y0 y1 => (sI_row _ _ _ _ _ (by decide)).trans ((sI_row _ _ _ _ _ (by decide)).trans (hc.1 y y0 y1)), fun y y0 y1 u => by
                rw [sI_row _ _ _ _ _ (by decide)]
                by_cases e : y = w
                · subst e; rw [sI_same, mup_same]
                · rw [sI_slot _ _ _ _ (by omega), mup_ne e]
                  refine hc.2.1 y y0 y1 ?_
                  rw [gb_or, Bool.or_eq_true, gb_sh w0 (by omega) y0 (by omega), decide_eq_true_eq] at u
                  exact u.resolve_right e, fun j jm => by
                show _ = zI (if j = many then pt w else q' j)
                by_cases e : j = many
                · subst e; rw [sI_same, if_pos rfl]
                · rw [sI_slot _ _ _ _ e, sI_row _ _ _ _ _ (by decide), if_neg e]; exact hc.2.2 j (by omega)⟩
              refine ⟨τ', ?_, a2⟩
              rw [headM τ K hc.1 e157, if_neg (by rw [zI_eq (by omega) (by decide)]; exact z)]
              exact a1
    -- the row from its start
    have mrb : ∀ y, 0 ≤ y → y < 32 → (gb (μ (q i) &&& (sc ^^^ zI (-1))) y = true ↔ gb (μ (q i)) y = true ∧ gb sc y = false) := fun y y0 y1 => by
      rw [gb_and, gb_not _ y0 y1, Bool.and_eq_true, Bool.not_eq_true']
    obtain ⟨bb, fin, f1, f2, f3⟩ := row m.toNat 0 sc (sc ||| (μ (q i) &&& (sc ^^^ zI (-1)))) (μ (q i) &&& (sc ^^^ zI (-1))) many q ab (by omega) (by decide) i1 rfl rfl hq hs hsm (fun y y0 y1 u => by
      have u' := (mrb y y0 y1).mp u
      obtain ⟨a1, a2⟩ := hμ _ y x0 x1 y0 y1 u'.1
      refine ⟨a1, ?_⟩
      rcases S01 y y0 a1 with v | v <;> omega) (fun y y0 y1 => mrb y y0 y1) (fun y y0 y1 => by
      rw [gb_or, Bool.or_eq_true]
      exact ⟨fun u => u.elim Or.inl fun u => Or.inr ⟨y0, u⟩, fun u => u.elim Or.inl fun u => Or.inr u.2⟩)
    refine ⟨bb, fin, f1, fun σ v x6 x7 K hc => ?_, fun τ x5 x6 K hc => ?_⟩
    · obtain ⟨σ', a1, a2⟩ := f2 σ v K hc
      refine ⟨σ', ?_, a2⟩
      rw [f_Matches_findFor_15_eq, show (24 : Int32) = zI 24 from zI_lit 24, if_pos (by rw [zI_le (by omega) (by decide)]; omega), if_pos (by rw [zI_le (by omega) (by omega)]; omega), bnd_zI (by omega) (by omega) (by omega), ix_zI (by omega) (by omega), Int.toNat_natCast, hc.2.2 i i1, zI_0]
      exact a1
    · obtain ⟨τ', a1, a2⟩ := f3 τ K hc
      refine ⟨τ', ?_, a2⟩
      rw [f_M_wedsOneMore_14_eq, if_pos (by rw [zI_le (by omega) (by omega)]; omega), bnd_zI (by omega) (by omega) (by omega), ix_zI (by omega) (by omega), Int.toNat_natCast, hc.2.2 i i1, (hM τ K).2 _ x0 x1, cI_rI, show (-1 : Int32) = zI (-1) from rfl, zI_0]
      exact a1
