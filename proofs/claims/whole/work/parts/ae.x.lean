/-! law: skips, in the class -/
def endK (op last s : Int) (K : KK) : KK := if last = -1 then K else kSet K last s (1048576 * op + s)
theorem endSk_sp {q : Nat} (hq : isL q) {n : Int} {T : Int → Int} {pl s last op : Int} {K : KK} {σ : Sg} (h : CL q n T pl s K σ) (s1 : s ≤ 240) (hl : last = -1 ∨ 0 ≤ last ∧ last < s) {d : Nat} : ∃ σ', f_LawReader_endSkip (d + 1) q (zI last) σ = rV σ' ∧ Fr (SLw q) σ σ' ∧ CL q n T pl s (endK op last s K) σ' := by
  have ne : (5 : Nat) ≠ q + 6 := by rcases hq with rfl | rfl <;> decide
  unfold endK
  by_cases z : last = -1
  · rw [if_pos z]
    refine ⟨σ, ?_, Fr.rf _ _, h⟩
    rw [f_LawReader_endSkip_eq, zI_0, ifLe (by omega) (by decide), if_pos (by omega)]
  · rw [if_neg z]
    have l0 : 0 ≤ last := by omega
    have l1 : last < s := by omega
    have F : Fr (SLw q) σ (sI σ (q + 6) last.toNat (zI s)) := (Fr.rf _ σ).sI _ (by simp [SLw])
    refine ⟨_, ?_, F, h.1.fr F (by rcases hq with rfl | rfl <;> rfl) (by rcases hq with rfl | rfl <;> rfl) (fun k => by rcases hq with rfl | rfl <;> rfl) ((sI_row _ _ _ _ _ ne).trans h.1.2), (sI_row _ _ _ _ _ (by omega)).trans h.2.1, fun j j0 j1 => ⟨(sI_row _ _ _ _ _ (by omega)).trans (h.2.2 j j0 j1).1, ?_⟩⟩
    · rw [f_LawReader_endSkip_eq, zI_0, ifLe (by omega) (by decide), if_neg (by omega), gfS_of hq.s0, gfI_of hq.s0, h.2.1, ofs_2_7, stI_of hq.s6 l0 (by omega) (by omega)]
    · unfold kSet
      dsimp only
      by_cases y : j = last
      · subst y; rw [mup_same, sI_same]
      · rw [mup_ne y, sI_slot _ _ _ _ (by omega)]; exact (h.2.2 j j0 j1).2
theorem endSk_any {q : Nat} (hq : isL q) {last : Int} {σ : Sg} (h : SzOk q σ) (hl : last = -1 ∨ 0 ≤ last ∧ last < 240) {d : Nat} : ∃ σ', f_LawReader_endSkip (d + 1) q (zI last) σ = rV σ' ∧ Fr (SLw q) σ σ' ∧ SzOk q σ' := by
  obtain ⟨z, z0, z1, e⟩ := h
  by_cases y : last = -1
  · exact ⟨σ, by rw [f_LawReader_endSkip_eq, zI_0, ifLe (by omega) (by decide), if_pos (by omega)], Fr.rf _ _, z, z0, z1, e⟩
  · have l0 : 0 ≤ last := by omega
    have l1 : last < 240 := by omega
    exact ⟨_, by rw [f_LawReader_endSkip_eq, zI_0, ifLe (by omega) (by decide), if_neg (by omega), gfS_of hq.s0, gfI_of hq.s0, e, ofs_2_7, stI_of hq.s6 l0 (by omega) (by omega)], (Fr.rf _ σ).sI _ (by simp [SLw]), z, z0, z1, (sI_row _ _ _ _ _ (by omega)).trans e⟩
theorem emitSk_sp {q : Nat} (hq : isL q) {n : Int} {T : Int → Int} {pl s last op : Int} {K : KK} {σ : Sg} (h : CL q n T pl s K σ) (hx : TX n T) (p0 : 0 ≤ pl) (p1 : pl ≤ n) (s0 : 0 ≤ s) (s1 : s < 240) (hl : last = -1 ∨ 0 ≤ last ∧ last < s) (hc : isCd (chA n T pl)) {d : Nat} : ∃ σ', f_LawReader_emitSkip (d + 2) q (zI last) σ = rI (zI s) σ' ∧ Fr (SLw q) σ σ' ∧ CL q n T (pl + 1) (s + 1) (kPut (endK op last s K) s (chA n T pl) 0 (1048576 * op)) σ' := by
  obtain ⟨σ1, a1, a2, a3⟩ := endSk_sp hq (op := op) h (by omega) hl (d := d)
  obtain ⟨σ2, d1, d2, d3⟩ := emit_sp hq a3 hc s0 s1 (w := 0) (m := 1048576 * op) (d := d)
  refine ⟨_, ?_, (a2.tr d2).sI _ (by simp [SLw]), d3.up hq (pl + 1)⟩
  have ne : q ≠ 5 := by rcases hq with rfl | rfl <;> decide
  rw [f_LawReader_emitSkip_eq, a1, cV_rV, a3.1.now hx p0 p1, cI_rI, chr_cd hc, gdK_of hq.s0, zI_0, d1, cV_rV]
  dsimp only
  rw [d3.1.nx, gfI_of hq.s0, sI_row _ _ _ _ _ ne, d3.2.1, show (1 : Int32) = zI 1 from zI_lit 1, zI_sub, show s + 1 - 1 = s by omega]
def HK (c op o last s0 s : Int) (K : KK) : Prop := last = -1 ∧ (∀ k, 16 - 2 * o ≤ k → WE K.1 K.2.1 true s0 s k) ∨ s0 < last ∧ last < s ∧ K.1 last = c ∧ K.2.2 last = 1048576 * op ∧ ∀ k, 16 - 2 * o ≤ k → WE K.1 K.2.1 true s0 last k ∧ WE K.1 K.2.1 true (last + 1) s k
theorem CEq_skip {c op s : Int} (ho : c = 38 ∧ op = 11 ∨ c = 124 ∧ op = 12) (s0 : 0 ≤ s) (s1 : s ≤ 240) : CEq c s (1048576 * op + s) := by
  rcases ho with ⟨rfl, rfl⟩ | ⟨rfl, rfl⟩
  · exact Or.inr (Or.inr (Or.inr (Or.inr (Or.inr (Or.inr (Or.inr (Or.inr (Or.inr (Or.inr (Or.inr (Or.inl ⟨rfl, by omega, s0, s1⟩)))))))))))
  · exact Or.inr (Or.inr (Or.inr (Or.inr (Or.inr (Or.inr (Or.inr (Or.inr (Or.inr (Or.inr (Or.inr (Or.inr (⟨rfl, by omega, s0, s1⟩))))))))))))
theorem HK.ends {c op o last s0 s : Int} {K : KK} (h : HK c op o last s0 s K) (ho : c = 38 ∧ op = 11 ∨ c = 124 ∧ op = 12) (s00 : 0 ≤ s0) (s1 : s ≤ 240) (ok : KOk s K) : (last = -1 ∨ 0 ≤ last ∧ last < s) ∧ KOk s (endK op last s K) ∧ kAg s0 K (endK op last s K) ∧ ∀ k, 16 - 2 * o ≤ k → WE (endK op last s K).1 (endK op last s K).2.1 true s0 s k := by
  unfold endK
  rcases h with ⟨z, we⟩ | ⟨l0, l1, e1, e2, we⟩
  · rw [if_pos z]
    exact ⟨Or.inl z, ok, kAg.rf _ _, we⟩
  · rw [if_neg (by omega)]
    refine ⟨Or.inr ⟨by omega, l1⟩, fun j j0 j1 => ?_, fun j j0 j1 => ⟨rfl, mup_ne (by omega), mup_ne (by omega)⟩, fun k hk => ?_⟩
    · unfold kSet
      dsimp only
      by_cases y : j = last
      · subst y
        rw [mup_same, mup_same, e1]
        exact CEq_skip ho (by omega) s1
      · rw [mup_ne y, mup_ne y]; exact ok j j0 j1
    · obtain ⟨wa, wb⟩ := we k hk
      exact WE.skp (m := last) (wa.cg fun j j0 j1 => ⟨rfl, mup_ne (by omega)⟩) (by show K.1 last = 38 ∨ K.1 last = 124; rw [e1]; omega) (mup_same _ _ _) (wb.cg fun j j0 j1 => ⟨rfl, mup_ne (by omega)⟩)
theorem stkP {n : Int} {T : Int → Int} {pl o s wt last : Int} {K : KK} {Wt : Int → Int} {τ : Sg} (hl : last = -1 ∨ 0 ≤ last ∧ last < s) (e : last ≠ -1 → K.2.2 last = 1048576 * 11) (h1 : last = -1 → ML n T pl o s K wt Wt τ) (h2 : last ≠ -1 → ML n T pl o s K (wt + 1) (mup Wt wt (1048576 * 11 + last)) τ) : LzP n T pl o s (endK 11 last s K) wt Wt τ := by
  unfold endK
  by_cases z : last = -1
  · rw [if_pos z]; exact Or.inl (h1 z)
  · rw [if_neg z]
    refine Or.inr ⟨last, by omega, by omega, mup_same _ _ _, (h2 z).cg (fun j j0 j1 => ?_) fun _ _ _ => rfl⟩
    show mup (mup K.2.2 last (1048576 * 11 + s)) last (1048576 * 11) j = K.2.2 j
    by_cases y : j = last
    · subst y; rw [mup_same, e z]
    · rw [mup_ne y, mup_ne y]
theorem stkC {n : Int} {T : Int → Int} {pl o s wt last : Int} {K : KK} {Wt : Int → Int} {τ : Sg} (hl : last = -1 ∨ 0 ≤ last ∧ last < s) (e : last ≠ -1 → K.2.2 last = 1048576 * 12) (h1 : last = -1 → LzP n T pl o s K wt Wt τ) (h2 : last ≠ -1 → LzP n T pl o s K (wt + 1) (mup Wt wt (1048576 * 12 + last)) τ) : LzC n T pl o s (endK 12 last s K) wt Wt τ := by
  unfold endK
  by_cases z : last = -1
  · rw [if_pos z]; exact Or.inl (h1 z)
  · rw [if_neg z]
    refine Or.inr ⟨last, by omega, by omega, mup_same _ _ _, (h2 z).cg fun j j0 j1 => ?_⟩
    show mup (mup K.2.2 last (1048576 * 12 + s)) last (1048576 * 12) j = K.2.2 j
    by_cases y : j = last
    · subst y; rw [mup_same, e z]
    · rw [mup_ne y, mup_ne y]
