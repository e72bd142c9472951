/-! law: code that is well put together -/
def WE (c w : Int → Int) (b : Bool) (p q k : Int) : Prop := ∃ f, WX c w f b p q k
theorem WX_le {c w : Int → Int} {b : Bool} {p q k : Int} {f : Nat} (h : WX c w f b p q k) : ∀ g : Nat, f ≤ g → WX c w g b p q k := by
  intro g hg
  induction g with
  | zero => cases Nat.le_zero.mp hg; exact h
  | succ g ih =>
    rcases Nat.lt_or_ge f (g + 1) with z | z
    · exact WX_up (ih (by omega))
    · have : f = g + 1 := by omega
      subst this; exact h
theorem WE.lt {c w : Int → Int} {b : Bool} {p q k : Int} (h : WE c w b p q k) : p < q ∧ 1 ≤ k := by
  obtain ⟨f, h⟩ := h
  exact WX_lt h
theorem WE.at1 {c w : Int → Int} {p k : Int} (k1 : 1 ≤ k) (h : c p = 35 ∨ c p = 97 ∧ 0 ≤ w p ∧ w p < 8) : WE c w false p (p + 1) k := ⟨1, k1, Or.inl ⟨rfl, h⟩⟩
theorem WE.op {c w : Int → Int} {p m q k : Int} (a : WE c w false p m k) (b : WE c w false m q (k - 1)) (o : c q = 43 ∨ c q = 45 ∨ c q = 42 ∨ c q = 47 ∨ c q = 37) : WE c w false p (q + 1) k := by
  have k1 := a.lt.2
  obtain ⟨f, a⟩ := a
  obtain ⟨g, b⟩ := b
  have e : q + 1 - 1 = q := by omega
  exact ⟨f + g + 1, k1, Or.inr ⟨m, WX_le a _ (by omega), by rw [e]; exact WX_le b _ (by omega), by rw [e]; exact o⟩⟩
theorem WE.cmp {c w : Int → Int} {p m q k : Int} (a : WE c w false p m k) (b : WE c w false m q (k - 1)) (o : c q = 60 ∨ c q = 61 ∨ c q = 62) : WE c w true p (q + 1) k := by
  have k1 := a.lt.2
  obtain ⟨f, a⟩ := a
  obtain ⟨g, b⟩ := b
  have e : q + 1 - 1 = q := by omega
  exact ⟨f + g + 1, k1, Or.inl ⟨m, WX_le a _ (by omega), by rw [e]; exact WX_le b _ (by omega), by rw [e]; exact o⟩⟩
theorem WE.nt {c w : Int → Int} {p q k : Int} (a : WE c w true p q k) (o : c q = 33) : WE c w true p (q + 1) k := by
  have k1 := a.lt.2
  obtain ⟨f, a⟩ := a
  have e : q + 1 - 1 = q := by omega
  exact ⟨f + 1, k1, Or.inr (Or.inl ⟨by rw [e]; exact a, by rw [e]; exact o⟩)⟩
theorem WE.skp {c w : Int → Int} {p m q k : Int} (a : WE c w true p m k) (o : c m = 38 ∨ c m = 124) (e : w m = q) (b : WE c w true (m + 1) q k) : WE c w true p q k := by
  have k1 := a.lt.2
  obtain ⟨f, a⟩ := a
  obtain ⟨g, b⟩ := b
  exact ⟨f + g + 1, k1, Or.inr (Or.inr ⟨m, WX_le a _ (by omega), o, e, WX_le b _ (by omega)⟩)⟩
theorem WX_cg {c w c' w' : Int → Int} : ∀ {f : Nat} {b : Bool} {p q k : Int}, WX c w f b p q k → (∀ j, p ≤ j → j < q → c' j = c j ∧ w' j = w j) → WX c' w' f b p q k
  | 0, _, _, _, _, h, _ => False.elim h
  | f + 1, false, p, q, k, h, e => by
    have hl := (WX_lt h).1
    obtain ⟨h1, ⟨h2, h3⟩ | ⟨m, a, b, o⟩⟩ := h
    · refine ⟨h1, Or.inl ⟨h2, ?_⟩⟩
      rw [(e p (Int.le_refl _) hl).1, (e p (Int.le_refl _) hl).2]; exact h3
    · have la := (WX_lt a).1
      have lb := (WX_lt b).1
      refine ⟨h1, Or.inr ⟨m, WX_cg a fun j j0 j1 => e j j0 (by omega), WX_cg b fun j j0 j1 => e j (by omega) (by omega), ?_⟩⟩
      rw [(e (q - 1) (by omega) (by omega)).1]; exact o
  | f + 1, true, p, q, k, h, e => by
    obtain ⟨h1, ⟨m, a, b, o⟩ | ⟨a, o⟩ | ⟨m, a, o, z, b⟩⟩ := h
    · have la := (WX_lt a).1
      have lb := (WX_lt b).1
      refine ⟨h1, Or.inl ⟨m, WX_cg a fun j j0 j1 => e j j0 (by omega), WX_cg b fun j j0 j1 => e j (by omega) (by omega), ?_⟩⟩
      rw [(e (q - 1) (by omega) (by omega)).1]; exact o
    · have la := (WX_lt a).1
      refine ⟨h1, Or.inr (Or.inl ⟨WX_cg a fun j j0 j1 => e j j0 (by omega), ?_⟩)⟩
      rw [(e (q - 1) (by omega) (by omega)).1]; exact o
    · have la := (WX_lt a).1
      have lb := (WX_lt b).1
      refine ⟨h1, Or.inr (Or.inr ⟨m, WX_cg a fun j j0 j1 => e j j0 (by omega), ?_, ?_, WX_cg b fun j j0 j1 => e j (by omega) (by omega)⟩)⟩
      · rw [(e m (by omega) (by omega)).1]; exact o
      · rw [(e m (by omega) (by omega)).2]; exact z
theorem WE.cg {c w c' w' : Int → Int} {b : Bool} {p q k : Int} (h : WE c w b p q k) (e : ∀ j, p ≤ j → j < q → c' j = c j ∧ w' j = w j) : WE c' w' b p q k := by
  obtain ⟨f, h⟩ := h
  exact ⟨f, WX_cg h e⟩
/-! the code so far, in both -/
abbrev KK : Type := (Int → Int) × (Int → Int) × (Int → Int)
def kPut (K : KK) (s c w m : Int) : KK := (mup K.1 s c, mup K.2.1 s w, mup K.2.2 s m)
def kSet (K : KK) (a w m : Int) : KK := (K.1, mup K.2.1 a w, mup K.2.2 a m)
def KOk (s : Int) (K : KK) : Prop := ∀ j, 0 ≤ j → j < s → CEq (K.1 j) (K.2.1 j) (K.2.2 j)
def kAg (s : Int) (K K' : KK) : Prop := ∀ j, 0 ≤ j → j < s → K'.1 j = K.1 j ∧ K'.2.1 j = K.2.1 j ∧ K'.2.2 j = K.2.2 j
theorem kAg.rf (s : Int) (K : KK) : kAg s K K := fun _ _ _ => ⟨rfl, rfl, rfl⟩
theorem kAg.tr {s t : Int} {K K' K2 : KK} (h : kAg s K K') (h' : kAg t K' K2) (l : s ≤ t) : kAg s K K2 := fun j j0 j1 => by
  obtain ⟨a1, a2, a3⟩ := h j j0 j1
  obtain ⟨b1, b2, b3⟩ := h' j j0 (by omega)
  exact ⟨b1.trans a1, b2.trans a2, b3.trans a3⟩
theorem kAg_put {s c w m : Int} (K : KK) : kAg s K (kPut K s c w m) := fun j j0 j1 => ⟨mup_ne (by omega), mup_ne (by omega), mup_ne (by omega)⟩
theorem KOk.put {s c w m : Int} {K : KK} (h : KOk s K) (e : CEq c w m) : KOk (s + 1) (kPut K s c w m) := fun j j0 j1 => by
  unfold kPut
  dsimp only
  by_cases q : j = s
  · subst q; rw [mup_same, mup_same, mup_same]; exact e
  · rw [mup_ne q, mup_ne q, mup_ne q]; exact h j j0 (by omega)
theorem WE.ag {K K' : KK} {b : Bool} {s p q k : Int} (h : WE K.1 K.2.1 b p q k) (e : kAg s K K') (p0 : 0 ≤ p) (q1 : q ≤ s) : WE K'.1 K'.2.1 b p q k := h.cg fun j j0 j1 => ⟨(e j (by omega) (by omega)).1, (e j (by omega) (by omega)).2.1⟩
def CL (q : Nat) (n : Int) (T : Int → Int) (pl s : Int) (K : KK) (σ : Sg) : Prop := CP n T pl σ ∧ σ.1 q 5 = zI s ∧ ∀ j, 0 ≤ j → j < s → σ.1 (q + 5) j.toNat = zI (K.1 j) ∧ σ.1 (q + 6) j.toNat = zI (K.2.1 j)
def ML (n : Int) (T : Int → Int) (pl o s : Int) (K : KK) (wt : Int) (Wt : Int → Int) (τ : Sg) : Prop := MP n T pl τ ∧ τ.1 102 12 = zI o ∧ τ.1 102 13 = zI s ∧ τ.1 102 14 = zI wt ∧ (∀ j, 0 ≤ j → j < s → τ.1 109 j.toNat = zI (K.2.2 j)) ∧ ∀ j, 0 ≤ j → j < wt → τ.1 110 j.toNat = zI (Wt j)
def SLw (q a k : Nat) : Bool := (a == 5 && k == 4) || (a == q && k == 5) || a == q + 5 || a == q + 6
def SLm (a k : Nat) : Bool := a == 109 || a == 110 || (a == 102 && (k == 8 || k == 10 || k == 11 || k == 12 || k == 13 || k == 14))
theorem ML.cg {n : Int} {T : Int → Int} {pl o s wt : Int} {K K' : KK} {Wt Wt' : Int → Int} {τ : Sg} (h : ML n T pl o s K wt Wt τ) (e : ∀ j, 0 ≤ j → j < s → K'.2.2 j = K.2.2 j) (e' : ∀ j, 0 ≤ j → j < wt → Wt' j = Wt j) : ML n T pl o s K' wt Wt' τ := ⟨h.1, h.2.1, h.2.2.1, h.2.2.2.1, fun j j0 j1 => by rw [e j j0 j1]; exact h.2.2.2.2.1 j j0 j1, fun j j0 j1 => by rw [e' j j0 j1]; exact h.2.2.2.2.2 j j0 j1⟩
theorem ML.up {n : Int} {T : Int → Int} {pl o s wt : Int} {K : KK} {Wt : Int → Int} {τ : Sg} (h : ML n T pl o s K wt Wt τ) (v : Int) : ML n T v o s K wt Wt (sI τ 102 8 (zI v)) := ⟨h.1.up v, (sI_slot _ _ _ _ (by decide)).trans h.2.1, (sI_slot _ _ _ _ (by decide)).trans h.2.2.1, (sI_slot _ _ _ _ (by decide)).trans h.2.2.2.1, fun j j0 j1 => (sI_row _ _ _ _ _ (by decide)).trans (h.2.2.2.2.1 j j0 j1), fun j j0 j1 => (sI_row _ _ _ _ _ (by decide)).trans (h.2.2.2.2.2 j j0 j1)⟩
theorem CL.up {q : Nat} (hq : isL q) {n : Int} {T : Int → Int} {pl s : Int} {K : KK} {σ : Sg} (h : CL q n T pl s K σ) (v : Int) : CL q n T v s K (sI σ 5 4 (zI v)) := by
  have ne : q ≠ 5 ∧ q + 5 ≠ 5 ∧ q + 6 ≠ 5 := by rcases hq with rfl | rfl <;> decide
  exact ⟨h.1.up v, (sI_row _ _ _ _ _ ne.1).trans h.2.1, fun j j0 j1 => ⟨(sI_row _ _ _ _ _ ne.2.1).trans (h.2.2 j j0 j1).1, (sI_row _ _ _ _ _ ne.2.2).trans (h.2.2 j j0 j1).2⟩⟩
/-! a code is emitted, noted -/
def isCd (c : Int) : Prop := c = 35 ∨ c = 97 ∨ c = 43 ∨ c = 45 ∨ c = 42 ∨ c = 47 ∨ c = 37 ∨ c = 60 ∨ c = 61 ∨ c = 62 ∨ c = 33 ∨ c = 38 ∨ c = 124
theorem nar_cd {c : Int} (h : isCd c) : vp_nar .char (zI c) = zI c := by
  rcases h with rfl | rfl | rfl | rfl | rfl | rfl | rfl | rfl | rfl | rfl | rfl | rfl | rfl <;> decide
theorem chr_cd {c : Int} (h : isCd c) : ((zI c).toUInt32 % 65536).toInt32 = zI c := by
  rcases h with rfl | rfl | rfl | rfl | rfl | rfl | rfl | rfl | rfl | rfl | rfl | rfl | rfl <;> decide
theorem emit_sp {q : Nat} (hq : isL q) {n : Int} {T : Int → Int} {pl s c w m : Int} {K : KK} {σ : Sg} (h : CL q n T pl s K σ) (hc : isCd c) (s0 : 0 ≤ s) (s1 : s < 240) {d : Nat} : ∃ σ', f_Law_emit (d + 1) q (zI c) (zI w) σ = rV σ' ∧ Fr (SLw q) σ σ' ∧ CL q n T pl (s + 1) (kPut K s c w m) σ' := by
  have ne : q ≠ 5 ∧ q + 5 ≠ 5 ∧ q + 6 ≠ 5 := by rcases hq with rfl | rfl <;> decide
  have F : Fr (SLw q) σ (sI (sI (sI σ (q + 5) s.toNat (zI c)) q 5 (zI (s + 1))) (q + 6) s.toNat (zI w)) := (((Fr.rf _ σ).sI _ (by simp [SLw])).sI _ (by simp [SLw])).sI _ (by simp [SLw])
  refine ⟨_, ?_, F, h.1.fr F (by rcases hq with rfl | rfl <;> rfl) (by rcases hq with rfl | rfl <;> rfl) (fun k => by rcases hq with rfl | rfl <;> rfl) ?_, ?_, fun j j0 j1 => ?_⟩
  · rw [f_Law_emit_eq, gfI_of hq.s0, h.2.1, show (240 : Int32) = zI 240 from zI_lit 240, ifLe (by omega) (by decide), if_pos s1, gfS_of hq.s0, gfI_of hq.s0, h.2.1, ofs_2_6, stC_of hq.s5 s0 (by omega) (by omega), nar_cd hc, gfS_of hq.s0, gfI_of hq.s0, sI_row _ _ _ _ _ (by omega), h.2.1, show (1 : Int32) = zI 1 from zI_lit 1, zI_add, pfI_of hq.s0, ofs_2_7, stI_of hq.s6 s0 (by omega) (by omega)]
  · rw [sI_row _ _ _ _ _ ne.2.2.symm, sI_row _ _ _ _ _ ne.1.symm, sI_row _ _ _ _ _ ne.2.1.symm]; exact h.1.2
  · rw [sI_row _ _ _ _ _ (by omega), sI_same]
  · unfold kPut
    dsimp only
    by_cases z : j = s
    · subst z
      rw [mup_same, mup_same]
      exact ⟨by rw [sI_row _ _ _ _ _ (by omega), sI_row _ _ _ _ _ (by omega), sI_same], sI_same _ _ _ _⟩
    · rw [mup_ne z, mup_ne z, sI_slot _ _ _ _ (show j.toNat ≠ s.toNat by omega), sI_slot _ _ _ _ (show j.toNat ≠ s.toNat by omega), sI_row _ _ _ _ _ (by omega), sI_slot _ _ _ _ (show j.toNat ≠ s.toNat by omega), sI_row _ _ _ _ _ (by omega), sI_row _ _ _ _ _ (by omega)]
      exact h.2.2 j j0 (by omega)
theorem notes_sp {n : Int} {T : Int → Int} {pl o s wt op v c w : Int} {K : KK} {Wt : Int → Int} {τ : Sg} (h : ML n T pl o s K wt Wt τ) (s0 : 0 ≤ s) (s1 : s < 260) {d : Nat} : ∃ τ', f_M_notes (d + 1) (zI op) (zI v) τ = rV τ' ∧ Fr SLm τ τ' ∧ ML n T pl o (s + 1) (kPut K s c w (1048576 * op + v)) wt Wt τ' ∧ ∀ k, k ≠ 13 → τ'.1 102 k = τ.1 102 k := by
  have F : Fr SLm τ (sI (sI τ 109 s.toNat (zI (1048576 * op + v))) 102 13 (zI (s + 1))) := ((Fr.rf _ τ).sI _ rfl).sI _ rfl
  refine ⟨_, ?_, F, ⟨h.1.fr F rfl (fun _ => rfl) ?_, ?_, sI_same _ _ _ _, ?_, fun j j0 j1 => ?_, fun j j0 j1 => ?_⟩, fun k hk => ?_⟩
  · rw [f_M_notes_eq, h.2.2.1, bnd_zI s0 (by omega) (by omega), ix_zI s0 (by omega), show (1048576 : Int32) = zI 1048576 from zI_lit 1048576, zI_mul, zI_add]
    dsimp only
    rw [sI_row _ _ _ _ _ (by decide), h.2.2.1, show (1 : Int32) = zI 1 from zI_lit 1, zI_add]
  · rw [sI_slot _ _ _ _ (by decide), sI_row _ _ _ _ _ (by decide)]; exact h.1.2.1
  · rw [sI_slot _ _ _ _ (by decide), sI_row _ _ _ _ _ (by decide)]; exact h.2.1
  · rw [sI_slot _ _ _ _ (by decide), sI_row _ _ _ _ _ (by decide)]; exact h.2.2.2.1
  · unfold kPut
    dsimp only
    rw [sI_row _ _ _ _ _ (by decide)]
    by_cases z : j = s
    · subst z; rw [mup_same, sI_same]
    · rw [mup_ne z, sI_slot _ _ _ _ (by omega)]; exact h.2.2.2.2.1 j j0 (by omega)
  · rw [sI_row _ _ _ _ _ (by decide), sI_row _ _ _ _ _ (by decide)]; exact h.2.2.2.2.2 j j0 j1
  · rw [sI_slot _ _ _ _ hk, sI_row _ _ _ _ _ (by decide)]
/-! the waiting stack -/
def BW (wt : Int) (Wt : Int → Int) : Prop := ∀ j, 0 ≤ j → j < wt → 0 ≤ Wt j ∧ Wt j < 16777216
def wtop (wt : Int) (Wt : Int → Int) : Int := if wt = 0 then -1 else Wt (wt - 1) / 1048576
theorem wtop_b {wt : Int} {Wt : Int → Int} (h : BW wt Wt) (w0 : 0 ≤ wt) : -1 ≤ wtop wt Wt ∧ wtop wt Wt < 16 := by
  unfold wtop
  by_cases q : wt = 0
  · rw [if_pos q]; decide
  · rw [if_neg q]; have := h (wt - 1) (by omega) (by omega); omega
theorem wtop_up {wt x : Int} {Wt : Int → Int} (w0 : 0 ≤ wt) : wtop (wt + 1) (mup Wt wt x) = x / 1048576 := by
  unfold wtop
  rw [if_neg (by omega), show wt + 1 - 1 = wt by omega, mup_same]
theorem BW.up {wt x : Int} {Wt : Int → Int} (h : BW wt Wt) (x0 : 0 ≤ x) (x1 : x < 16777216) : BW (wt + 1) (mup Wt wt x) := fun j j0 j1 => by
  by_cases q : j = wt
  · subst q; rw [mup_same]; exact ⟨x0, x1⟩
  · rw [mup_ne q]; exact h j j0 (by omega)
theorem waitTop_sp {n : Int} {T : Int → Int} {pl o s wt : Int} {K : KK} {Wt : Int → Int} {τ : Sg} (h : ML n T pl o s K wt Wt τ) (hb : BW wt Wt) (w0 : 0 ≤ wt) (w1 : wt ≤ 260) {d : Nat} : f_M_waitTop (d + 1) τ = rI (zI (wtop wt Wt)) τ := by
  rw [f_M_waitTop_eq, h.2.2.2.1, ifE0 (by omega)]
  unfold wtop
  by_cases q : wt = 0
  · rw [if_pos q, if_pos q]; rfl
  · have b := hb (wt - 1) (by omega) (by omega)
    rw [if_neg q, if_neg q, show (1 : Int32) = zI 1 from zI_lit 1, zI_sub, bnd_zI (by omega) (by omega) (by omega), ix_zI (by omega) (by omega), h.2.2.2.2.2 (wt - 1) (by omega) (by omega), show (1048576 : Int32) = zI 1048576 from zI_lit 1048576, dvI_nn b.1 (by omega) (by decide) (by decide)]
theorem push_ML {n : Int} {T : Int → Int} {pl o s wt x : Int} {K : KK} {Wt : Int → Int} {τ : Sg} (h : ML n T pl o s K wt Wt τ) : ML n T pl o s K (wt + 1) (mup Wt wt x) (sI (sI τ 110 wt.toNat (zI x)) 102 14 (zI (wt + 1))) := by
  have F : Fr SLm τ (sI (sI τ 110 wt.toNat (zI x)) 102 14 (zI (wt + 1))) := ((Fr.rf _ τ).sI _ rfl).sI _ rfl
  refine ⟨h.1.fr F rfl (fun _ => rfl) ?_, ?_, ?_, sI_same _ _ _ _, fun j j0 j1 => ?_, fun j j0 j1 => ?_⟩
  · rw [sI_slot _ _ _ _ (by decide), sI_row _ _ _ _ _ (by decide)]; exact h.1.2.1
  · rw [sI_slot _ _ _ _ (by decide), sI_row _ _ _ _ _ (by decide)]; exact h.2.1
  · rw [sI_slot _ _ _ _ (by decide), sI_row _ _ _ _ _ (by decide)]; exact h.2.2.1
  · rw [sI_row _ _ _ _ _ (by decide), sI_row _ _ _ _ _ (by decide)]; exact h.2.2.2.2.1 j j0 j1
  · rw [sI_row _ _ _ _ _ (by decide)]
    by_cases z : j = wt
    · subst z; rw [mup_same, sI_same]
    · rw [mup_ne z, sI_slot _ _ _ _ (by omega)]; exact h.2.2.2.2.2 j j0 (by omega)
theorem pop_ML {n : Int} {T : Int → Int} {pl o s wt x : Int} {K : KK} {Wt : Int → Int} {τ : Sg} (h : ML n T pl o s K (wt + 1) (mup Wt wt x) τ) : ML n T pl o s K wt Wt (sI τ 102 14 (zI wt)) := by
  have F : Fr SLm τ (sI τ 102 14 (zI wt)) := (Fr.rf _ τ).sI _ rfl
  refine ⟨h.1.fr F rfl (fun _ => rfl) ?_, ?_, ?_, sI_same _ _ _ _, fun j j0 j1 => ?_, fun j j0 j1 => ?_⟩
  · rw [sI_slot _ _ _ _ (by decide)]; exact h.1.2.1
  · rw [sI_slot _ _ _ _ (by decide)]; exact h.2.1
  · rw [sI_slot _ _ _ _ (by decide)]; exact h.2.2.1
  · rw [sI_row _ _ _ _ _ (by decide)]; exact h.2.2.2.2.1 j j0 j1
  · rw [sI_row _ _ _ _ _ (by decide), h.2.2.2.2.2 j j0 (by omega), mup_ne (by omega)]
theorem open_ML {n : Int} {T : Int → Int} {pl o o' s wt : Int} {K : KK} {Wt : Int → Int} {τ : Sg} (h : ML n T pl o s K wt Wt τ) : ML n T pl o' s K wt Wt (sI τ 102 12 (zI o')) := by
  have F : Fr SLm τ (sI τ 102 12 (zI o')) := (Fr.rf _ τ).sI _ rfl
  refine ⟨h.1.fr F rfl (fun _ => rfl) ?_, sI_same _ _ _ _, ?_, ?_, fun j j0 j1 => ?_, fun j j0 j1 => ?_⟩
  · rw [sI_slot _ _ _ _ (by decide)]; exact h.1.2.1
  · rw [sI_slot _ _ _ _ (by decide)]; exact h.2.2.1
  · rw [sI_slot _ _ _ _ (by decide)]; exact h.2.2.2.1
  · rw [sI_row _ _ _ _ _ (by decide)]; exact h.2.2.2.2.1 j j0 j1
  · rw [sI_row _ _ _ _ _ (by decide)]; exact h.2.2.2.2.2 j j0 j1
theorem opens_sp {n : Int} {T : Int → Int} {pl o s wt op : Int} {K : KK} {Wt : Int → Int} {τ : Sg} (h : ML n T pl o s K wt Wt τ) (o0 : 0 ≤ o) (o6 : o ≤ 6) (w0 : 0 ≤ wt) (w1 : wt < 260) (p0 : 0 ≤ pl) (p1 : pl ≤ 260) {d : Nat} : (o = 6 → ∃ τ', f_M_opens (d + 2) (zI op) τ = rI (zI 0) τ' ∧ Fr SLm τ τ' ∧ τ'.1 102 10 = zI (-5000 - pl)) ∧ (o < 6 → ∃ τ', f_M_opens (d + 2) (zI op) τ = rI (zI 1) τ' ∧ Fr SLm τ τ' ∧ ML n T (pl + 1) (o + 1) s K (wt + 1) (mup Wt wt (1048576 * op)) τ') := by
  have st : f_M_opens (d + 2) (zI op) τ = if o = 6 then rI (zI 0) (sI τ 102 10 (zI (-5000 - pl))) else rI (zI 1) (sI (sI (sI (sI τ 102 12 (zI (o + 1))) 110 wt.toNat (zI (1048576 * op))) 102 14 (zI (wt + 1))) 102 8 (zI (pl + 1))) := by
    rw [f_M_opens_eq, h.2.1, show (6 : Int32) = zI 6 from zI_lit 6, ifEq (by omega) (by decide)]
    by_cases q : o = 6
    · rw [if_pos q, if_pos q, h.1.2.1, show (5 : Int32) = zI 5 from zI_lit 5, wrongAt_sp, cI_rI, rZ_z0]; rfl
    · rw [if_neg q, if_neg q]
      dsimp only
      rw [sI_slot _ _ _ _ (show (14 : Nat) ≠ 12 by decide), h.2.2.2.1, bnd_zI w0 (by omega) (by omega), ix_zI w0 (by omega), show (1048576 : Int32) = zI 1048576 from zI_lit 1048576, zI_mul, sI_row _ _ _ _ _ (show (102 : Nat) ≠ 110 by decide), sI_slot _ _ _ _ (show (14 : Nat) ≠ 12 by decide), h.2.2.2.1, sI_slot _ _ _ _ (show (8 : Nat) ≠ 14 by decide), sI_row _ _ _ _ _ (show (102 : Nat) ≠ 110 by decide), sI_slot _ _ _ _ (show (8 : Nat) ≠ 12 by decide), h.1.2.1, show (1 : Int32) = zI 1 from zI_lit 1, zI_add, zI_add, zI_add]
      rfl
  refine ⟨fun q => ⟨_, by rw [st, if_pos q], (Fr.rf _ τ).sI _ rfl, sI_same _ _ _ _⟩, fun q => ⟨_, by rw [st, if_neg (by omega)], ((((Fr.rf _ τ).sI _ rfl).sI _ rfl).sI _ rfl).sI _ rfl, (push_ML (open_ML h)).up (pl + 1)⟩⟩
