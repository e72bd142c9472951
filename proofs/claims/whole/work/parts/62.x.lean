theorem leadRoll {σ1 σ2 : Sg} {r p a d d2 : Nat} {W : WS} (ha : isW a) (h1 : IRoll r p σ1) (h2 : IRoll r p σ2) (hp : isP p) (n1 : rd σ1 r 0 ≤ 6) (n2 : rd σ2 r 0 ≤ 6) (ef : relF σ2 p = relF σ1 p) (em : rd σ2 p 0 = rd σ1 p 0) (c : CWo a W σ1) (m : MWo W σ2) (ok : WOk W) : ∀ (k : Nat) (i : Int) (S : Int32) (v x1 x2 x3 : Value), i + k = W.size → 0 ≤ i → ∃ u, f_Word_leadOnRoll_7 (d + 3) a p v S (zI i) σ1 = rI u σ1 ∧ f_M_those_60 (d2 + 3) x1 x2 x3 S (zI i) σ2 = rI u σ2 := by
  obtain ⟨s0, s1⟩ := ok.1
  intro k
  induction k with
  | zero =>
    intro i S v x1 x2 x3 hi i0
    have e : i = W.size := by omega
    refine ⟨S, ?_, ?_⟩
    · rw [f_Word_leadOnRoll_7_eq, gfI_of ha.s0, c.1, e, if_neg Int32.lt_irrefl]
    · rw [f_M_those_60_eq, m.1, e, if_neg Int32.lt_irrefl]
  | succ k ih =>
    intro i S v x1 x2 x3 hi i0
    obtain ⟨b1, b2, b3, b4⟩ := ok.2 i i0 (by omega)
    obtain ⟨U, eU, hU⟩ := relAny_sp h1 hp n1 (d := d) b1 b2 S
    obtain ⟨U', eU', hU'⟩ := allOfP_sp h2 n2 (d := d2) b1 b2 S
    have e : U' = U := by
      unfold relU at hU'
      rw [ef, em] at hU'
      exact relU.eq hU' hU
    obtain ⟨u, z1, z2⟩ := ih (i + 1) U (nlg v) x1 x2 (nlg x3) (by omega) (by omega)
    refine ⟨u, ?_, ?_⟩
    · rw [f_Word_leadOnRoll_7_eq, gfI_of ha.s0, c.1, if_pos (by rw [zI_le (by omega) (by omega)]; omega), gfS_of ha.s0, ofs_9_1, ldi_of ha.s1 i0 (by omega) (by omega), (c.2 i i0 (by omega)).1, gdK_of hp.s0, eU, cI_rI, show (1 : Int32) = zI 1 from zI_lit 1, zI_add, z1]
    · rw [f_M_those_60_eq, m.1, if_pos (by rw [zI_le (by omega) (by omega)]; omega), bnd_zI i0 (by omega) (by omega), ix_zI i0 (by omega), (m.2 i i0 (by omega)).1, eU', cI_rI, e, show (1 : Int32) = zI 1 from zI_lit 1, zI_add, z2]
