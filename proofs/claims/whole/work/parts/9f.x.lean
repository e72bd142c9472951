/-! weddings -/
theorem Fr.back {S : Nat → Nat → Bool} {σ τ : Sg} (K : Fr S σ τ) : Fr S τ σ := ⟨K.1.symm, fun a k e => (K.2 a k e).symm⟩
def SMt (a _k : Nat) : Bool := a == 83 || a == 84 || a == 85 || a == 86
theorem SMt_scr {r p l : Nat} {σ τ : Sg} (h : Inv r p l σ) (K : Fr SMt σ τ) : Inv r p l τ := by
  have hb := h.bits
  refine h.scr K ?_ ?_ (by rcases hb.2.2 with rfl | rfl <;> rfl) (by rcases hb.2.2 with rfl | rfl <;> repeat (first | exact trivial | refine ⟨fun _ => rfl, ?_⟩ | refine ⟨rfl, ?_⟩)) ?_ ⟨rfl, rfl⟩
  · repeat (first | exact trivial | refine ⟨fun _ => rfl, ?_⟩ | refine ⟨rfl, ?_⟩)
  · repeat (first | exact trivial | refine ⟨fun _ => rfl, ?_⟩ | refine ⟨rfl, ?_⟩)
  · repeat (first | exact trivial | refine ⟨fun _ => rfl, ?_⟩ | refine ⟨rfl, ?_⟩)
def SWW (a k : Nat) : Bool := S154 a k || SMm a k
theorem SWW_scr {r p l : Nat} {σ τ : Sg} (h : Inv r p l σ) (K : Fr SWW σ τ) : Inv r p l τ := by
  have hb := h.bits
  refine h.scr K ?_ ?_ (by rcases hb.2.2 with rfl | rfl <;> rfl) (by rcases hb.2.2 with rfl | rfl <;> repeat (first | exact trivial | refine ⟨fun _ => rfl, ?_⟩ | refine ⟨rfl, ?_⟩)) ?_ ⟨rfl, rfl⟩
  · repeat (first | exact trivial | refine ⟨fun _ => rfl, ?_⟩ | refine ⟨rfl, ?_⟩)
  · repeat (first | exact trivial | refine ⟨fun _ => rfl, ?_⟩ | refine ⟨rfl, ?_⟩)
  · repeat (first | exact trivial | refine ⟨fun _ => rfl, ?_⟩ | refine ⟨rfl, ?_⟩)
theorem SuS_SMt {r p l : Nat} {σ τ : Sg} (h : Inv r p l σ) (K : Fr SMt σ τ) {x : Int} {s : Int32} (q : SuS σ r p x s) : SuS τ r p x s := by
  have hr : r = 7 ∨ r = 12 := h.bits.1
  have hp : p = 17 ∨ p = 25 := h.bits.2.1
  exact q.fr K (by intro a k; simp [DRoll, SMt]; omega) (by intro a k; simp [DRule, SMt]; omega) (fun _ => rfl)
theorem SuS_SWW {r p l : Nat} {σ τ : Sg} (h : Inv r p l σ) (K : Fr SWW σ τ) {x : Int} {s : Int32} (q : SuS σ r p x s) : SuS τ r p x s := by
  have hr : r = 7 ∨ r = 12 := h.bits.1
  have hp : p = 17 ∨ p = 25 := h.bits.2.1
  exact q.fr K (by intro a k; simp [DRoll, SWW, SMm, S154, S152]; omega) (by intro a k; simp [DRule, SWW, SMm, S154, S152]; omega) (fun _ => rfl)
theorem most_fill {r p l : Nat} {σ : Sg} (h : Inv r p l σ) {d : Nat} {v : Value} : ∃ σ1, f_Matches_most_3 (d + 3) r p (zI 0) v σ = f_Matches_most_47 (d + 3) (.ref r) p 0 0 σ1 ∧ Fr SMt σ σ1 ∧ ∀ y, 0 ≤ y → y < rd σ p 0 → SuS σ r p y (σ1.1 83 y.toNat) ∧ σ1.1 84 y.toNat = zI (-1) := by
  have hP := h.1.2.1
  have hp : p = 17 ∨ p = 25 := h.bits.2.1
  obtain ⟨m0, m24, -⟩ := h.2.2.2.1.1
  have loop : ∀ (k : Nat) (i : Int) (σ2 : Sg), i + k = rd σ p 0 → 0 ≤ i → Fr SMt σ σ2 → (∀ y, 0 ≤ y → y < i → SuS σ r p y (σ2.1 83 y.toNat) ∧ σ2.1 84 y.toNat = zI (-1)) → ∃ σ1, f_Matches_most_3 (d + 3) r p (zI i) v σ2 = f_Matches_most_47 (d + 3) (.ref r) p 0 0 σ1 ∧ Fr SMt σ σ1 ∧ ∀ y, 0 ≤ y → y < rd σ p 0 → SuS σ r p y (σ1.1 83 y.toNat) ∧ σ1.1 84 y.toNat = zI (-1) := by
    intro k
    induction k with
    | zero =>
      intro i σ2 hi i0 K ht
      have : i = rd σ p 0 := by omega
      subst this
      have em : σ2.1 p 0 = zI (rd σ p 0) := by
        exact (K.2 p 0 (by simp [SMt]; omega)).trans (rd_k σ p 0)
      exact ⟨σ2, by rw [f_Matches_most_3_eq, gfI_of hP.s0, em, if_neg Int32.lt_irrefl], K, ht⟩
    | succ k ih =>
      intro i σ2 hi i0 K ht
      have i1 : i < rd σ p 0 := by omega
      have h2 := SMt_scr h K
      have em : σ2.1 p 0 = zI (rd σ p 0) := by
        exact (K.2 p 0 (by simp [SMt]; omega)).trans (rd_k σ p 0)
      have ep : rd σ2 p 0 = rd σ p 0 := fr_rd K (by rcases hp with rfl | rfl <;> rfl)
      obtain ⟨s, s1, s2⟩ := suitable_sp (l := l) h2.2.2.2.1 h2.2.2.1 hP (d := d) i0 (by rw [ep]; exact i1)
      obtain ⟨σ1, a1, a2⟩ := ih (i + 1) (sI (sI σ2 83 i.toNat s) 84 i.toNat (zI (-1))) (by omega) (by omega) ((K.sI _ rfl).sI _ rfl) fun y y0 y1 => by
        by_cases q : y = i
        · subst q
          refine ⟨?_, sI_same _ _ _ _⟩
          rw [sI_row _ _ _ _ _ (by decide), sI_same]
          exact SuS_SMt h2 K.back s2
        · have hty := ht y y0 (by omega)
          refine ⟨?_, ?_⟩
          · rw [sI_row _ _ _ _ _ (by decide), sI_slot _ _ _ _ (by omega)]; exact hty.1
          · rw [sI_slot _ _ _ _ (by omega), sI_row _ _ _ _ _ (by decide)]; exact hty.2
      refine ⟨σ1, ?_, a2⟩
      rw [f_Matches_most_3_eq, gfI_of hP.s0, em, if_pos (by rw [zI_le (by omega) (by omega)]; exact i1), s1, cI_rI, bnd_zI i0 (by omega) (by omega), ix_zI i0 (by omega), show (-1 : Int32) = zI (-1) from rfl, bnd_zI i0 (by omega) (by omega), show (1 : Int32) = zI 1 from zI_lit 1, zI_add]
      exact a1
  exact loop (rd σ p 0).toNat 0 σ (by omega) (by decide) (Fr.rf _ σ) fun y y0 y1 => by omega
theorem wed_clear {σ : Sg} {m : Int} (m0 : 0 ≤ m) (m24 : m ≤ 24) (e69 : σ.1 102 69 = zI m) {d : Nat} {v : Value} : ∃ σ1, f_M_weddings_6 d (zI 0) v σ = f_M_weddings_31 d 0 0 σ1 ∧ Fr S155 σ σ1 ∧ ∀ y, 0 ≤ y → y < m → σ1.1 155 y.toNat = zI (-1) := by
  have loop : ∀ (k : Nat) (i : Int) (σ2 : Sg), i + k = m → 0 ≤ i → Fr S155 σ σ2 → (∀ y, 0 ≤ y → y < i → σ2.1 155 y.toNat = zI (-1)) → ∃ σ1, f_M_weddings_6 d (zI i) v σ2 = f_M_weddings_31 d 0 0 σ1 ∧ Fr S155 σ σ1 ∧ ∀ y, 0 ≤ y → y < m → σ1.1 155 y.toNat = zI (-1) := by
    intro k
    induction k with
    | zero =>
      intro i σ2 hi i0 K ht
      have : i = m := by omega
      subst this
      exact ⟨σ2, by rw [f_M_weddings_6_eq, K.2 _ _ rfl, e69, if_neg Int32.lt_irrefl], K, ht⟩
    | succ k ih =>
      intro i σ2 hi i0 K ht
      have i1 : i < m := by omega
      obtain ⟨σ1, a1, a2⟩ := ih (i + 1) (sI σ2 155 i.toNat (zI (-1))) (by omega) (by omega) (K.sI _ rfl) fun y y0 y1 => by
        by_cases q : y = i
        · subst q; rw [sI_same]
        · rw [sI_slot _ _ _ _ (by omega)]; exact ht y y0 (by omega)
      refine ⟨σ1, ?_, a2⟩
      rw [f_M_weddings_6_eq, K.2 _ _ rfl, e69, if_pos (by rw [zI_le (by omega) (by omega)]; exact i1), bnd_zI i0 (by omega) (by omega), ix_zI i0 (by omega), show (-1 : Int32) = zI (-1) from rfl, show (1 : Int32) = zI 1 from zI_lit 1, zI_add]
      exact a1
  exact loop m.toNat 0 σ (by omega) (by decide) (Fr.rf _ σ) fun y y0 y1 => by omega
theorem wedAll {m : Int} {S : Int → Int} {μ : Int → Int32} (m0 : 0 ≤ m) (m24 : m ≤ 24) (S01 : ∀ y, 0 ≤ y → y < m → S y = 0 ∨ S y = 1) (hμ : ∀ x y, 0 ≤ x → x < m → 0 ≤ y → y < 32 → gb (μ x) y = true → y < m ∧ S y ≠ S x) {σ0 τ0 : Sg} {d d2 p : Nat} {v : Value} (hp : isP p)
    (hC : ∀ σ, Fr SMc σ0 σ → ∀ x, 0 ≤ x → x < m → σ.1 83 x.toNat = μ x) (hM : ∀ τ, Fr SMm τ0 τ → τ.1 102 69 = zI m ∧ ∀ x, 0 ≤ x → x < m → f_M_whoMayWed (d2 + 1) (zI x) τ = rI (μ x) τ)
    (hC2 : ∀ σ, Fr SMc σ0 σ → σ.1 p 0 = zI m ∧ ∀ x : Int, 0 ≤ x → x < m → σ.1 (p + 1) x.toNat = zI (S x)) (hM2 : ∀ τ, Fr SMm τ0 τ → ∀ x : Int, 0 ≤ x → x < m → τ.1 142 x.toNat = zI (S x)) :
    ∀ (k : Nat) (i : Int), i + k = m → 0 ≤ i → ∀ (pt : Int → Int) (cnt : Int32), MtJ m S pt (-1) → (∀ y, i ≤ y → y < m → S y = 0 → pt y = -1) → ∃ res : Int32,
      (∀ σ, Fr SMc σ0 σ → (∀ y, 0 ≤ y → y < m → σ.1 84 y.toNat = zI (pt y)) → ∃ σ', f_Matches_most_47 (d + 2) v p cnt (zI i) σ = rI res σ' ∧ Fr SMc σ0 σ') ∧
      (∀ τ, Fr SMm τ0 τ → (∀ y, 0 ≤ y → y < m → τ.1 155 y.toNat = zI (pt y)) → ∃ τ', f_M_weddings_31 (d2 + 2) cnt (zI i) τ = rI res τ' ∧ Fr SMm τ0 τ') := by
  intro k
  induction k with
  | zero =>
    intro i hi i0 pt cnt hJ hf
    have : i = m := by omega
    subst this
    refine ⟨cnt, fun σ K h84 => ⟨σ, ?_, K⟩, fun τ K h155 => ⟨τ, ?_, K⟩⟩
    · rw [f_Matches_most_47_eq, gfI_of hp.s0, (hC2 σ K).1, if_neg Int32.lt_irrefl]
    · rw [f_M_weddings_31_eq, (hM τ K).1, if_neg Int32.lt_irrefl]
  | succ k ih =>
    intro i hi i0 pt cnt hJ hf
    have i1 : i < m := by omega
    have s01 := S01 i i0 i1
    have hN : ∀ σ, Fr SMc σ0 σ → f_Matches_most_47 (d + 2) v p cnt (zI i) σ = if S i = 0 then (cI (f_Matches_findFor (d + 2) (zI i) (zI m) σ) fun v6 σ5 => if v6 = zI 0 then f_Matches_most_47 (d + 2) v p cnt (zI (i + 1)) σ5 else f_Matches_most_47 (d + 2) v p (cnt + zI 1) (zI (i + 1)) σ5) else f_Matches_most_47 (d + 2) v p cnt (zI (i + 1)) σ := fun σ K => by
      obtain ⟨c1, c2⟩ := hC2 σ K
      rw [f_Matches_most_47_eq, gfI_of hp.s0, c1, if_pos (by rw [zI_le (by omega) (by omega)]; exact i1), gfS_of hp.s0, ofs_4_1, ldi_of hp.s1 i0 (by omega) (by omega), c2 i i0 i1, gfI_of hp.s0, c1, show (1 : Int32) = zI 1 from zI_lit 1, zI_add, zI_0]
      by_cases z : S i = 0
      · rw [if_pos (by rw [zI_eq (by omega) (by decide)]; exact z), if_pos z]
      · rw [if_neg (by rw [zI_eq (by omega) (by decide)]; exact z), if_neg z]
    have hW : ∀ τ, Fr SMm τ0 τ → f_M_weddings_31 (d2 + 2) cnt (zI i) τ = if S i = 0 then (cI (f_M_wedsOneMore (d2 + 2) (zI i) τ) fun v2 σ1 => if v2 = zI 0 then f_M_weddings_31 (d2 + 2) cnt (zI (i + 1)) σ1 else f_M_weddings_31 (d2 + 2) (cnt + zI 1) (zI (i + 1)) σ1) else f_M_weddings_31 (d2 + 2) cnt (zI (i + 1)) τ := fun τ K => by
      rw [f_M_weddings_31_eq, (hM τ K).1, if_pos (by rw [zI_le (by omega) (by omega)]; exact i1), bnd_zI i0 (by omega) (by omega), ix_zI i0 (by omega), hM2 τ K i i0 i1, show (1 : Int32) = zI 1 from zI_lit 1, zI_add, zI_0]
      by_cases z : S i = 0
      · rw [if_pos (by rw [zI_eq (by omega) (by decide)]; exact z), if_pos z]
      · rw [if_neg (by rw [zI_eq (by omega) (by decide)]; exact z), if_neg z]
    by_cases z : S i = 0
    · obtain ⟨bb, fin, ⟨f1, f2⟩, f3, f4⟩ := oneMore m0 m24 S01 hμ hJ (σ0 := σ0) (τ0 := τ0) (d := d) (d2 := d2) hC hM 25 0 rfl (zI 0) 1 (fun _ => i) (fun _ => 0) (Nat.le_refl _) (Nat.zero_le _) ⟨fun j _ => ⟨i0, i1, z⟩, fun a c ac hc => by omega, hf i (Int.le_refl _) i1 z, fun j j1 jm => by omega⟩ (fun j j1 jm => by omega) (fun y y0 y1 u => by rw [gb_0] at u; cases u)
      obtain ⟨res, g1, g2⟩ := ih (i + 1) (by omega) (by omega) fin (if bb then cnt + zI 1 else cnt) f1 fun y y0 y1 sy => by
        by_cases e : fin y = -1
        · exact e
        · rcases f2 y (by omega) y1 sy e with u | u
          · exact absurd (hf y (by omega) y1 sy) u
          · exact absurd (show y = i from u) (by omega)
      refine ⟨res, fun σ K h84 => ?_, fun τ K h155 => ?_⟩
      · obtain ⟨σ', a1, a2, a3⟩ := f3 (sI σ 86 0 (zI i)) (.int (zI i)) .null .null (K.sI _ rfl) ⟨fun y y0 y1 => (sI_row _ _ _ _ _ (by decide)).trans (h84 y y0 y1), fun y y0 y1 u => (by rw [gb_0] at u; cases u), fun j jm => by
          have : j = 0 := by omega
          subst this; exact sI_same _ _ _ _⟩
        obtain ⟨σ2, b1, b2⟩ := g1 σ' a2 a3
        refine ⟨σ2, ?_, b2⟩
        rw [hN σ K, if_pos z, f_Matches_findFor_eq, show (0 : Int32) = zI 0 from zI_0.symm, show (1 : Int32) = zI 1 from zI_lit 1, bnd_zI (by decide) (by decide) (by decide), ix_zI (by decide) (by decide)]
        have a1 : f_Matches_findFor_15 (d + 1) (.int (zI i)) (zI m) (zI 0) (zI 1) (zI 0) .null .null (sI σ 86 (0 : Int).toNat (zI i)) = rI (bz bb) σ' := a1
        dsimp only
        rw [a1, cI_rI]
        cases bb with
        | true => rw [bz_tt, if_neg (by decide)]; exact b1
        | false => rw [bz_ff, if_pos (by decide)]; exact b1
      · obtain ⟨τ', a1, a2, a3⟩ := f4 (sI τ 157 0 (zI i)) .null .null (K.sI _ rfl) ⟨fun y y0 y1 => (sI_row _ _ _ _ _ (by decide)).trans (h155 y y0 y1), fun y y0 y1 u => (by rw [gb_0] at u; cases u), fun j jm => by
          have : j = 0 := by omega
          subst this; exact sI_same _ _ _ _⟩
        obtain ⟨τ2, b1, b2⟩ := g2 τ' a2 a3
        refine ⟨τ2, ?_, b2⟩
        rw [hW τ K, if_pos z, f_M_wedsOneMore_eq, show (0 : Int32) = zI 0 from zI_0.symm, show (1 : Int32) = zI 1 from zI_lit 1, bnd_zI (by decide) (by decide) (by decide), ix_zI (by decide) (by decide)]
        have a1 : f_M_wedsOneMore_14 (d2 + 1) (zI i) (zI 0) (zI 1) (zI 0) .null .null (sI τ 157 (0 : Int).toNat (zI i)) = rI (bz bb) τ' := a1
        dsimp only
        rw [a1, cI_rI]
        cases bb with
        | true => rw [bz_tt, if_neg (by decide)]; exact b1
        | false => rw [bz_ff, if_pos (by decide)]; exact b1
    · obtain ⟨res, g1, g2⟩ := ih (i + 1) (by omega) (by omega) pt cnt hJ fun y y0 y1 sy => hf y (by omega) y1 sy
      refine ⟨res, fun σ K h84 => ?_, fun τ K h155 => ?_⟩
      · rw [hN σ K, if_neg z]; exact g1 σ K h84
      · rw [hW τ K, if_neg z]; exact g2 τ K h155
theorem wedRun {σ υ : Sg} {r p l : Nat} (h : Inv r p l σ) (hυ : Inv r p l υ) (Kυ : Fr SMt σ υ) : ∃ (res : Int32) (σ' τ' : Sg), f_N_weddings 100 σ = rI res σ' ∧ f_M_weddings 100 υ = rI res τ' ∧ Fr SMt σ σ' ∧ Fr SWW υ τ' := by
  obtain ⟨n1, n2, n3, n4⟩ := h.n
  have q3 : σ.2.2 4 3 = p := h.1.2.2.2.2.2.1
  have hP := h.1.2.1
  have hbt := h.bits
  have hr : r = 7 ∨ r = 12 := hbt.1
  have hp : p = 17 ∨ p = 25 := hbt.2.1
  have hro := h.2.2.2.1
  obtain ⟨m0, m24, ok⟩ := id hro.1
  have hx := HX.mk hP hro h.2.2.1
  obtain ⟨nm, ⟨n0, n6⟩, mr, e5⟩ := hx.nm
  obtain ⟨rl, rm, e69, -, -⟩ := hx.rl
  obtain ⟨-, -, cc⟩ := hro.c hP
  have ep : rd υ p 0 = rd σ p 0 := fr_rd Kυ (by rcases hp with rfl | rfl <;> rfl)
  obtain ⟨σ1, u1, K1, u2⟩ := most_fill h (d := 95) (v := .null)
  obtain ⟨τ, t1, KT, t2⟩ := laysMayBe_sp hυ (d := 90)
  obtain ⟨τ1, w1, KW, w2⟩ := wed_clear (σ := τ) m0 m24 (by rw [KT.2 _ _ rfl, Kυ.2 _ _ rfl]; exact e69) (d := 99) (v := .null)
  have K2 : Fr SWW υ τ1 := (KT.mono fun a k e => by simp only [SWW, Bool.or_eq_false_iff] at e; exact e.1).tr (KW.mono fun a k e => by simp only [SWW, SMm, Bool.or_eq_false_iff] at e; exact e.2.1.1)
  obtain ⟨res, g1, g2⟩ := wedAll (S := rd σ (p + 1)) (μ := fun x => σ1.1 83 x.toNat) m0 m24 (fun y y0 y1 => (rl.bd n6 y0 y1).1) (fun x y x0 x1 y0 y1 u => by
      obtain ⟨-, a1, a2, -⟩ := ((u2 x x0 x1).1 y y0 y1).mp u
      exact ⟨a1, a2⟩) (σ0 := σ1) (τ0 := τ1) (d := 96) (d2 := 97) (p := p) (v := .ref r) hP (fun σ2 K x x0 x1 => K.2 _ _ rfl) (fun τ2 K => by
      have K3 : Fr SWW υ τ2 := K2.tr (K.mono fun a k e => by simp only [SWW, Bool.or_eq_false_iff] at e; exact e.2)
      have h3 := SWW_scr hυ K3
      have ep2 : rd τ2 p 0 = rd υ p 0 := fr_rd K3 (by rcases hp with rfl | rfl <;> rfl)
      refine ⟨(K3.2 _ _ rfl).trans ((Kυ.2 _ _ rfl).trans e69), fun x x0 x1 => ?_⟩
      obtain ⟨s, s1, s2⟩ := whoMayWed_sp h3.2.2.2.1 h3.2.2.1 hP (fun y y0 y1 => by
        rw [ep2] at y1
        rw [K.2 154 _ rfl, KW.2 154 _ rfl, t2 y y0 y1, K3.2 76 _ rfl]) (d := 93) x0 (by rw [ep2, ep]; exact x1)
      rw [s1, s2.eq (SuS_SWW hυ K3 (SuS_SMt h Kυ (u2 x x0 x1).1))]) (fun σ2 K => by
      have K3 : Fr SMt σ σ2 := K1.tr (K.mono fun a k e => by simp only [SMt, SMc, Bool.or_eq_false_iff] at e ⊢; exact ⟨⟨e.1.1.2, e.1.2⟩, e.2⟩)
      refine ⟨?_, fun x x0 x1 => ?_⟩
      · exact (K3.2 p 0 (by simp [SMt]; omega)).trans (rd_k σ p 0)
      · rw [K3.2 (p + 1) _ (by simp [SMt]; omega)]; exact (cc x x0).1) (fun τ2 K x x0 x1 => by
      have K3 : Fr SWW υ τ2 := K2.tr (K.mono fun a k e => by simp only [SWW, Bool.or_eq_false_iff] at e; exact e.2)
      rw [K3.2 _ _ rfl, Kυ.2 _ _ rfl]; exact (rm.2 x x0 x1).1) (rd σ p 0).toNat 0 (by omega) (by decide) (fun _ => -1) (zI 0) (fun y y0 y1 ne => Or.inl rfl) (fun y y0 y1 _ => rfl)
  obtain ⟨σ', a1, a2⟩ := g1 σ1 (Fr.rf _ _) fun y y0 y1 => (u2 y y0 y1).2
  obtain ⟨τ', b1, b2⟩ := g2 τ1 (Fr.rf _ _) w2
  refine ⟨res, σ', τ', ?_, ?_, K1.tr (a2.mono fun a k e => by simp only [SMt, SMc, Bool.or_eq_false_iff] at e ⊢; exact ⟨⟨e.1.1.2, e.1.2⟩, e.2⟩), K2.tr (b2.mono fun a k e => by simp only [SWW, Bool.or_eq_false_iff] at e; exact e.2)⟩
  · rw [f_N_weddings_eq, n1, q3, f_Matches_most_eq]
    have u1 : f_Matches_most_3 98 r p 0 .null σ = f_Matches_most_47 98 (.ref r) p 0 0 σ1 := u1
    rw [u1]
    have a1 : f_Matches_most_47 98 (.ref r) p 0 0 σ1 = rI res σ' := a1
    rw [a1, cI_rI]
  · rw [f_M_weddings_eq, t1, cV_rV]
    have w1 : f_M_weddings_6 99 0 .null τ = f_M_weddings_31 99 0 0 τ1 := w1
    rw [w1]
    exact b1
theorem c_weddings {σ : Sg} {r p l : Nat} (h : Inv r p l σ) : Same (f_N_weddings 100) (f_M_weddings 100) σ := by
  obtain ⟨res, σ', -, a1, -, K, -⟩ := wedRun h h (Fr.rf _ _)
  have h' := SMt_scr h K
  obtain ⟨res2, σ2, τ2, b1, b2, -, K2⟩ := wedRun h h' K
  have e := a1.symm.trans b1
  have e1 : res = res2 ∧ σ' = σ2 := by injection e with e; injection e with e1 e2; exact ⟨by injection e1 with e1; injection e1, e2⟩
  obtain ⟨rfl, rfl⟩ := e1
  exact ⟨res, σ', τ2, r, p, l, a1, b2, SWW_scr h' K2⟩
