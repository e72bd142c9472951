/-! TERM in the class -/
def SFn (a k : Nat) : Bool := a == 63 || a == 64 || a == 65 || (a == 61 && k == 5)
def CQ (q : Nat → Int) (pr : Nat → Nat) (kd : Nat → Int) (m : Nat) (σ : Sg) : Prop := σ.1 61 5 = zI (m : Int) ∧ (∀ j, j < m → σ.1 65 j = zI (q j)) ∧ ∀ v : Int, 0 ≤ v → v < 12 → (σ.1 63 v.toNat = zI (-1) ∧ ∀ j, j < m → q j ≠ v) ∨ ∃ j, j < m ∧ q j = v ∧ σ.1 63 v.toNat = zI (q (pr j)) ∧ (1 ≤ j → σ.1 64 v.toNat = zI (kd j))
def alC (k v : Int) : Bool := canB k (v % 2)
theorem find49_sp {σ : Sg} {r d : Nat} {n : Int} (hr : RuleAt σ r n) (n0 : 0 ≤ n) {W H C M : Int → Int} (eW : rd σ (r + 1) = W) (eH : rd σ (r + 2) = H) (eC : rd σ (r + 3) = C) (eM : rd σ (r + 4) = M) {s goal : Int} {K : Nat} : ∀ (b : Nat) (c : Int) (q : Nat → Int) (pr : Nat → Nat) (kd : Nat → Int) (m : Nat) (τ : Sg), c + b = 8 → 0 ≤ c → K < m → BI (2 * n) alC (nxt W H C M) s q pr kd m K c → CQ q pr kd m τ → Fr SFn σ τ → ∃ q' pr' kd' m' τ', f_Row_findOnNames_49 (d + 3) r (zI s) (zI goal) (zI (K : Int)) (zI c) τ = f_Row_findOnNames_30 (d + 3) r (zI s) (zI goal) (zI ((K : Int) + 1)) (.int (zI 8)) τ' ∧ BI (2 * n) alC (nxt W H C M) s q' pr' kd' m' (K + 1) 0 ∧ m ≤ m' ∧ CQ q' pr' kd' m' τ' ∧ Fr SFn σ τ' := by
  have n6 := hr.2.2.1
  have hS : ∀ k, SFn r k = false ∧ SFn (r + 1) k = false ∧ SFn (r + 2) k = false ∧ SFn (r + 3) k = false ∧ SFn (r + 4) k = false := by
    intro k; rcases hr.1 with rfl | rfl <;> exact ⟨rfl, rfl, rfl, rfl, rfl⟩
  intro b
  induction b with
  | zero =>
    intro c q pr kd m τ hc c0 Km hB hQ F
    have : c = 8 := by omega
    subst this
    refine ⟨q, pr, kd, m, τ, ?_, hB.nextK, Nat.le_refl _, hQ, F⟩
    rw [f_Row_findOnNames_49_eq, show (8 : Int32) = zI 8 from zI_lit 8, if_neg Int32.lt_irrefl, show (1 : Int32) = zI 1 from zI_lit 1, zI_add]
  | succ b ih =>
    intro c q pr kd m τ hc c0 Km hB hQ F
    have mle := hB.le
    have c8 : c < 8 := by omega
    obtain ⟨qb0, qb1⟩ := hB.2.1 K Km
    have e65 := hQ.2.1 K Km
    have cs := canStep_sp (σ := τ) (d := d + 2) (k := c) (s := q K % 2) c0 c8 (by omega)
    have head : f_Row_findOnNames_49 (d + 3) r (zI s) (zI goal) (zI (K : Int)) (zI c) τ = if bz (canB c (q K % 2)) = zI 0 then f_Row_findOnNames_49 (d + 3) r (zI s) (zI goal) (zI (K : Int)) (zI (c + 1)) τ else cV (f_Row_comeTo (d + 3) (zI (nxt W H C M c (q K))) (zI (q K)) (zI c) τ) fun σ5 => f_Row_findOnNames_49 (d + 3) r (zI s) (zI goal) (zI (K : Int)) (zI (c + 1)) σ5 := by
      obtain ⟨b1, b2, b3, b4, b5⟩ := hr.fr5 F hS
      have nx := next_sp b1 (d := d + 1) (k := c) (v := q K) c0 c8 qb0 qb1
      rw [b2, b3, b4, b5, eW, eH, eC, eM] at nx
      rw [f_Row_findOnNames_49_eq, show (8 : Int32) = zI 8 from zI_lit 8, if_pos (by rw [zI_le (by omega) (by decide)]; exact c8), bnd_zI (by omega) (by omega) (by omega), ix_zI (by omega) (by omega), Int.toNat_natCast, e65, show (1 : Int32) = zI 1 from zI_lit 1, and1 qb0 (by omega), cs, cI_rI, bnd_zI (by omega) (by omega) (by omega), e65, nx, cI_rI, bnd_zI (by omega) (by omega) (by omega), e65, zI_0, zI_add]
    rw [head]
    cases hc' : canB c (q K % 2) with
    | false =>
      rw [bz_ff, if_pos rfl]
      exact ih (c + 1) q pr kd m τ (by omega) (by omega) Km (hB.skip fun _ a => by
        have a : canB c (q K % 2) = true := a
        rw [hc'] at a; cases a) hQ F
    | true =>
      rw [bz_tt, if_neg (by decide)]
      have vb := nxt_bd hr.2.2 (k := c) (v := q K) c0 c8 qb0 qb1
      rw [eW, eH, eC, eM] at vb
      rcases hQ.2.2 _ vb.1 (by omega) with ⟨e63, hn⟩ | ⟨j, jm, ej, e63, -⟩
      · have hB' := hB.app Km c0 c8 hc' vb (fun ⟨j, jm, e⟩ => hn j jm e)
        have mle' := hB'.le
        obtain ⟨q', pr', kd', m', τ', g1, g2, g3, g4, g5⟩ := ih (c + 1) _ _ _ (m + 1) (sI (sI (sI (sI τ 63 (nxt W H C M c (q K)).toNat (zI (q K))) 64 (nxt W H C M c (q K)).toNat (zI c)) 61 5 (zI ((m : Int) + 1))) 65 m (zI (nxt W H C M c (q K)))) (by omega) (by omega) (by omega) hB' ⟨by rw [sI_row _ _ _ _ _ (by decide), sI_same]; rfl, fun j jm => by
          by_cases z : j = m
          · subst z; rw [sI_same]; exact congrArg zI (if_pos rfl).symm
          · rw [sI_slot _ _ _ _ z, sI_row _ _ _ _ _ (by decide), sI_row _ _ _ _ _ (by decide), sI_row _ _ _ _ _ (by decide)]; exact (hQ.2.1 j (by omega)).trans (congrArg zI (if_neg z).symm), fun v v0 v1 => by
          have e63' : ∀ x, (sI (sI (sI (sI τ 63 (nxt W H C M c (q K)).toNat (zI (q K))) 64 (nxt W H C M c (q K)).toNat (zI c)) 61 5 (zI ((m : Int) + 1))) 65 m (zI (nxt W H C M c (q K)))).1 63 x = (sI τ 63 (nxt W H C M c (q K)).toNat (zI (q K))).1 63 x := fun x => by
            rw [sI_row _ _ _ _ _ (by decide), sI_row _ _ _ _ _ (by decide), sI_row _ _ _ _ _ (by decide)]
          have e64' : ∀ x, (sI (sI (sI (sI τ 63 (nxt W H C M c (q K)).toNat (zI (q K))) 64 (nxt W H C M c (q K)).toNat (zI c)) 61 5 (zI ((m : Int) + 1))) 65 m (zI (nxt W H C M c (q K)))).1 64 x = if x = (nxt W H C M c (q K)).toNat then zI c else τ.1 64 x := fun x => by
            rw [sI_row _ _ _ _ _ (by decide), sI_row _ _ _ _ _ (by decide)]
            by_cases z : x = (nxt W H C M c (q K)).toNat
            · rw [if_pos z, z, sI_same]
            · rw [if_neg z, sI_slot _ _ _ _ z, sI_row _ _ _ _ _ (by decide)]
          rw [e63', e64']
          by_cases z : v = nxt W H C M c (q K)
          · subst z
            refine Or.inr ⟨m, by omega, if_pos rfl, ?_, fun _ => by rw [if_pos rfl]; exact congrArg zI (if_pos rfl).symm⟩
            rw [sI_same]
            show zI (q K) = zI (if (if m = m then K else pr m) = m then nxt W H C M c (q K) else q (if m = m then K else pr m))
            simp only [if_true]
            rw [if_neg (by omega)]
          · have zt : v.toNat ≠ (nxt W H C M c (q K)).toNat := by omega
            rw [sI_slot _ _ _ _ zt, if_neg zt]
            rcases hQ.2.2 v v0 v1 with ⟨a1, a2⟩ | ⟨j, jm, a1, a2, a3⟩
            · refine Or.inl ⟨a1, fun j jm => ?_⟩
              show (if j = m then nxt W H C M c (q K) else q j) ≠ v
              by_cases y : j = m
              · rw [if_pos y]; exact fun q => z q.symm
              · rw [if_neg y]; exact a2 j (by omega)
            · refine Or.inr ⟨j, by omega, (if_neg (by omega)).trans a1, ?_, ?_⟩
              · have pj : pr j ≠ m := by
                  rcases Nat.eq_zero_or_pos j with y | y
                  · rw [y, hB.1.2.2]; omega
                  · have := (hB.2.2.2.1 j y jm).1; omega
                show τ.1 63 v.toNat = zI (if (if j = m then K else pr j) = m then nxt W H C M c (q K) else q (if j = m then K else pr j))
                rw [if_neg (show ¬ j = m by omega), if_neg pj]; exact a2
              · show 1 ≤ j → τ.1 64 v.toNat = zI (if j = m then c else kd j)
                rw [if_neg (show ¬ j = m by omega)]; exact a3⟩ ((((F.sI _ rfl).sI _ rfl).sI _ rfl).sI _ rfl)
        refine ⟨q', pr', kd', m', τ', ?_, g2, by omega, g4, g5⟩
        rw [f_Row_comeTo_eq, bnd_zI vb.1 (by omega) (by omega), ix_zI vb.1 (by omega), e63, show (-1 : Int32) = zI (-1) from rfl, if_pos rfl, hQ.1, show (12 : Int32) = zI 12 from zI_lit 12, if_pos (by rw [zI_le (by omega) (by decide)]; omega), bnd_zI vb.1 (by omega) (by omega), bnd_zI vb.1 (by omega) (by omega)]
        dsimp only
        rw [show (sI (sI τ 63 (nxt W H C M c (q K)).toNat (zI (q K))) 64 (nxt W H C M c (q K)).toNat (zI c)).1 61 5 = zI (m : Int) from hQ.1, show (1 : Int32) = zI 1 from zI_lit 1, zI_add, bnd_zI (by omega) (by omega) (by omega), ix_zI (by omega) (by omega), Int.toNat_natCast, cV_rV]
        exact g1
      · have ne : ¬ zI (q (pr j)) = zI (-1) := by
          have pj : pr j < m := by
            rcases Nat.eq_zero_or_pos j with y | y
            · rw [y, hB.1.2.2]; omega
            · have := (hB.2.2.2.1 j y jm).1; omega
          have := hB.2.1 _ pj
          rw [zI_eq (by omega) (by decide)]; omega
        rw [f_Row_comeTo_eq, bnd_zI vb.1 (by omega) (by omega), ix_zI vb.1 (by omega), e63, show (-1 : Int32) = zI (-1) from rfl, if_neg ne, cV_rV]
        exact ih (c + 1) q pr kd m τ (by omega) (by omega) Km (hB.skip fun _ _ => ⟨j, jm, ej⟩) hQ F
theorem find30_sp {σ : Sg} {r d : Nat} {n : Int} (hr : RuleAt σ r n) (n0 : 0 ≤ n) {W H C M : Int → Int} (eW : rd σ (r + 1) = W) (eH : rd σ (r + 2) = H) (eC : rd σ (r + 3) = C) (eM : rd σ (r + 4) = M) {s goal : Int} (g0 : 0 ≤ goal) (g1 : goal < 2 * n) : ∀ (b K : Nat) (q : Nat → Int) (pr : Nat → Nat) (kd : Nat → Int) (m : Nat) (τ : Sg) (v : Value), K + b = 12 → K ≤ m → BI (2 * n) alC (nxt W H C M) s q pr kd m K 0 → CQ q pr kd m τ → Fr SFn σ τ → ∃ q' pr' kd' m' τ', f_Row_findOnNames_30 (d + 3) r (zI s) (zI goal) (zI (K : Int)) v τ = (if τ'.1 63 goal.toNat = zI (-1) then rZ (zI 0) τ' else cV (f_Row_writeBack (d + 3) (zI s) (zI goal) τ') fun σ1 => rZ (zI 1) σ1) ∧ BF (2 * n) alC (nxt W H C M) s q' pr' kd' m' ∧ CQ q' pr' kd' m' τ' ∧ Fr SFn σ τ' := by
  have n6 := hr.2.2.1
  intro b
  induction b with
  | zero =>
    intro K q pr kd m τ v hK Km hB hQ F
    have mle := hB.le
    have : K = m := by omega
    subst this
    refine ⟨q, pr, kd, K, τ, ?_, hB, hQ, F⟩
    rw [f_Row_findOnNames_30_eq, show (12 : Int32) = zI 12 from zI_lit 12, if_neg (by rw [zI_le (by omega) (by decide)]; omega), bnd_zI g0 (by omega) (by omega), ix_zI g0 (by omega), zI_0, show (1 : Int32) = zI 1 from zI_lit 1, zI_neg]
  | succ b ih =>
    intro K q pr kd m τ v hK Km hB hQ F
    have mle := hB.le
    by_cases z : K = m
    · subst z
      refine ⟨q, pr, kd, K, τ, ?_, hB, hQ, F⟩
      rw [f_Row_findOnNames_30_eq, show (12 : Int32) = zI 12 from zI_lit 12, if_pos (by rw [zI_le (by omega) (by decide)]; omega), hQ.1, if_neg Int32.lt_irrefl, bnd_zI g0 (by omega) (by omega), ix_zI g0 (by omega), zI_0, show (1 : Int32) = zI 1 from zI_lit 1, zI_neg]
    · obtain ⟨q', pr', kd', m', τ', e1, e2, e3, e4, e5⟩ := find49_sp hr n0 eW eH eC eM (s := s) (goal := goal) (K := K) (d := d) 8 0 q pr kd m τ (by decide) (by decide) (by omega) hB hQ F
      obtain ⟨q2, pr2, kd2, m2, τ2, f1, f2⟩ := ih (K + 1) q' pr' kd' m' τ' (.int (zI 8)) (by omega) (by omega) e2 e4 e5
      refine ⟨q2, pr2, kd2, m2, τ2, ?_, f2⟩
      rw [f_Row_findOnNames_30_eq, show (12 : Int32) = zI 12 from zI_lit 12, if_pos (by rw [zI_le (by omega) (by decide)]; omega), hQ.1, if_pos (by rw [zI_le (by omega) (by omega)]; omega), zI_0, e1]
      exact f1
def SWb (a k : Nat) : Bool := a == 62 || (a == 61 && k == 0)
theorem writeBack_sp {σ : Sg} {d : Nat} {N s : Int} {al : Int → Int → Bool} {nx : Int → Int → Int} {q : Nat → Int} {pr : Nat → Nat} {kd : Nat → Int} {m : Nat} (N12 : N ≤ 12) (h : BF N al nx s q pr kd m) (hQ : CQ q pr kd m σ) {g D : Nat} (gm : g < m) (hD : Dp pr g D) : ∃ σ', f_Row_writeBack (d + 1) (zI s) (zI (q g)) σ = rV σ' ∧ Fr SWb σ σ' ∧ σ'.1 61 0 = zI (D : Int) ∧ ∀ t : Nat, t < D → σ'.1 62 t = zI (kd (itN pr (D - 1 - t) g)) := by
  have mle := h.le
  have Dg : D ≤ g := by
    obtain ⟨D', a, b⟩ := h.dp gm
    rcases Nat.lt_trichotomy D D' with z | z | z
    · exact absurd hD.1 (b.2 D z)
    · omega
    · exact absurd b.1 (hD.2 D' z)
  have q0 := h.1.2.1
  have cell : ∀ t, t ≤ D → 0 ≤ q (itN pr t g) ∧ q (itN pr t g) < 12 ∧ σ.1 63 (q (itN pr t g)).toNat = zI (q (itN pr (t + 1) g)) ∧ (t < D → σ.1 64 (q (itN pr t g)).toNat = zI (kd (itN pr t g))) := fun t ht => by
    have b := h.it_lt gm t
    have qb := h.2.1 (itN pr t g) (by omega)
    refine ⟨qb.1, by omega, ?_⟩
    rcases hQ.2.2 _ qb.1 (by omega) with ⟨-, a2⟩ | ⟨j, jm, a1, a2, a3⟩
    · exact absurd rfl (a2 (itN pr t g) (by omega))
    · have := h.uniq jm (show itN pr t g < m by omega) a1
      subst this
      exact ⟨a2, fun tD => a3 (Nat.pos_of_ne_zero (hD.2 t tD))⟩
  have back : ∀ (b : Nat) (i : Int) (τ : Sg) (v1 v2 : Value), (b : Int) = i + 1 → b ≤ D → Fr SWb σ τ → τ.1 61 0 = zI (D : Int) → (∀ t : Nat, b ≤ t → t < D → τ.1 62 t = zI (kd (itN pr (D - 1 - t) g))) → ∃ σ', f_Row_writeBack_55 d v1 v2 (zI (q (itN pr (D - b) g))) (zI i) τ = rV σ' ∧ Fr SWb σ σ' ∧ σ'.1 61 0 = zI (D : Int) ∧ ∀ t : Nat, t < D → σ'.1 62 t = zI (kd (itN pr (D - 1 - t) g)) := by
    intro b
    induction b with
    | zero =>
      intro i τ v1 v2 hi _ F e0 ht
      refine ⟨τ, ?_, F, e0, fun t tD => ht t (by omega) tD⟩
      rw [f_Row_writeBack_55_eq, zI_0, if_pos (by rw [zI_le (by omega) (by decide)]; omega)]
    | succ b ih =>
      intro i τ v1 v2 hi bD F e0 ht
      obtain ⟨c1, c2, c3, c4⟩ := cell (D - (b + 1)) (by omega)
      have c4 := c4 (by omega)
      have ib : i = (b : Int) := by omega
      subst ib
      obtain ⟨σ', a1, a2⟩ := ih ((b : Int) - 1) (sI τ 62 b (zI (kd (itN pr (D - (b + 1)) g)))) v1 (nlg v2) (by omega) (by omega) (F.sI _ rfl) ((sI_row _ _ _ _ _ (by decide)).trans e0) fun t t0 t1 => by
        by_cases z : t = b
        · subst z; rw [sI_same, show D - 1 - t = D - (t + 1) by omega]
        · rw [sI_slot _ _ _ _ z]; exact ht t (by omega) t1
      refine ⟨σ', ?_, a2⟩
      rw [f_Row_writeBack_55_eq, zI_0, if_neg (by rw [zI_le (by omega) (by decide)]; omega), bnd_zI c1 (by omega) (by omega), bnd_zI (by omega) (by omega) (by omega), ix_zI (by omega) (by omega), ix_zI c1 (by omega), Int.toNat_natCast, bnd_zI c1 (by omega) (by omega)]
      rw [F.2 64 _ rfl, c4, sI_row _ _ _ _ _ (by decide), F.2 63 _ rfl, c3, show (-1 : Int32) = zI (-1) from rfl, zI_add, show (b : Int) + -1 = (b : Int) - 1 by omega, show D - (b + 1) + 1 = D - b by omega]
      exact a1
  have up : ∀ (b t : Nat) (τ : Sg), t + b = D → Fr SWb σ τ → τ.1 61 0 = zI (t : Int) → ∃ σ', f_Row_writeBack_10 d (zI s) (zI (q g)) (zI (q (itN pr t g))) (zI (t : Int)) τ = rV σ' ∧ Fr SWb σ σ' ∧ σ'.1 61 0 = zI (D : Int) ∧ ∀ t : Nat, t < D → σ'.1 62 t = zI (kd (itN pr (D - 1 - t) g)) := by
    intro b
    induction b with
    | zero =>
      intro t τ ht F e0
      have : t = D := by omega
      subst this
      obtain ⟨σ', a1, a2⟩ := back t ((t : Int) - 1) τ (.int (zI s)) (.int (zI (q g))) (by omega) (Nat.le_refl _) F e0 (fun x x0 x1 => by omega)
      refine ⟨σ', ?_, a2⟩
      rw [Nat.sub_self] at a1
      have es : q (itN pr t g) = s := by rw [hD.1]; exact q0
      rw [f_Row_writeBack_10_eq, show (12 : Int32) = zI 12 from zI_lit 12, if_pos (by rw [zI_le (by omega) (by decide)]; omega), es, if_pos rfl, e0, show (1 : Int32) = zI 1 from zI_lit 1, zI_sub]
      exact a1
    | succ b ih =>
      intro t τ ht F e0
      obtain ⟨c1, c2, c3, -⟩ := cell t (by omega)
      have ne : q (itN pr t g) ≠ s := fun e => hD.2 t (by omega) (h.uniq (by have := h.it_lt gm t; omega) h.1.1 (by rw [e, q0]))
      have sb := h.2.1 0 h.1.1
      rw [q0] at sb
      obtain ⟨σ', a1, a2⟩ := ih (t + 1) (sI τ 61 0 (zI ((t : Int) + 1))) (by omega) (F.sI _ rfl) (sI_same _ _ _ _)
      refine ⟨σ', ?_, a2⟩
      rw [f_Row_writeBack_10_eq, show (12 : Int32) = zI 12 from zI_lit 12, if_pos (by rw [zI_le (by omega) (by decide)]; omega), if_neg (by rw [zI_eq (by omega) (by omega)]; exact ne), bnd_zI c1 (by omega) (by omega), ix_zI c1 (by omega), e0, show (1 : Int32) = zI 1 from zI_lit 1, zI_add, F.2 63 _ rfl, c3]
      exact a1
  obtain ⟨σ', a1, a2⟩ := up D 0 (sI σ 61 0 (zI 0)) (by omega) ((Fr.rf _ σ).sI _ rfl) (sI_same _ _ _ _)
  refine ⟨σ', ?_, a2⟩
  rw [f_Row_writeBack_eq, zI_0]
  exact a1
