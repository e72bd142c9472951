theorem fill_sp {a n : Nat} (ha : SH a = (14, n)) (hn : n ≤ 2000) {v : Int32} {σ : Sg} {d : Nat} : ∃ σ', f_Arrays_fill_2I (d + 1) a v σ = rV σ' ∧ (∀ j : Nat, j < n → σ'.1 a j = v) ∧ Fr (fun b _ => b == a) σ σ' ∧ σ'.2 = σ.2 := by
  have ea : alX sc0 a = fun K => K (zI n) := by
    funext K; unfold alX; rw [ha]; show K (Int32.ofNat n) = _; rw [zI_ofNat]
  have e0 : f_Arrays_fill_2I (d + 1) a v σ = f_Arrays_fill_2I_5 d a v (zI 0) (zI n) σ := by
    rw [f_Arrays_fill_2I_eq]; show alX sc0 a _ = _; rw [ea, zI_0]
  rw [e0]
  refine zloop (n : Int) (fun i (τ : Sg) => f_Arrays_fill_2I_5 d a v (zI i) (zI n) τ) (fun i τ => 0 ≤ i ∧ (∀ j : Nat, (j : Int) < i → τ.1 a j = v) ∧ Fr (fun b _ => b == a) σ τ ∧ τ.2 = σ.2) (fun o => ∃ σ', o = rV σ' ∧ (∀ j : Nat, j < n → σ'.1 a j = v) ∧ Fr (fun b _ => b == a) σ σ' ∧ σ'.2 = σ.2) ?_ ?_ 0 σ (by omega) ⟨by decide, fun j h => by omega, Fr.rf _ _, rfl⟩
  · rintro i τ hi ⟨h0, h1, F, e2⟩
    refine Or.inr ⟨sI τ a i.toNat v, ?_, by omega, fun j hj => ?_, F.sI _ (by simp), e2⟩
    · show f_Arrays_fill_2I_5 d a v (zI i) (zI n) τ = _
      rw [f_Arrays_fill_2I_5_eq, if_pos (by rw [zI_le (by omega) (by omega)]; exact hi), stv_of ha h0 hi (by omega), zI_lit, zI_add]
    · by_cases q : j = i.toNat
      · rw [q, sI_same]
      · rw [sI_slot _ _ _ _ q]; exact h1 j (by omega)
  · rintro τ ⟨h0, h1, F, e2⟩
    refine ⟨τ, ?_, fun j hj => h1 j (by omega), F, e2⟩
    show f_Arrays_fill_2I_5 d a v (zI n) (zI n) τ = _
    rw [f_Arrays_fill_2I_5_eq, if_neg Int32.lt_irrefl]
theorem acp_of {a0 a n0 n : Nat} (h0 : SH a0 = (14, n0)) (h1 : SH a = (14, n)) {k : Int} (k0 : 0 ≤ k) (k1 : k ≤ n0) (k2 : k ≤ n) (k3 : k < 2147483648) {σ : Sg} {K : Sg → Rs} : acp a0 a 0 0 (zI k) σ K = K (sC σ a0 a 0 0 k.toNat) := by
  unfold acp
  rw [gdK_of (by rw [h0]), gdK_of (by rw [h1]), h0, h1, ix_zI k0 k3, if_neg]
  · rfl
  · have e1 : ix 0 = 0 := rfl
    rw [e1]
    have : ¬ zI k < 0 := by rw [zI_0, zI_le (by omega) (by decide)]; omega
    have z : ¬ (0 : Int32) < 0 := Int32.lt_irrefl
    intro q
    rcases q with q | q | q | q | q
    · exact z q
    · exact z q
    · exact this q
    · simp only [] at q; omega
    · simp only [] at q; omega
theorem sC_1 (σ : Sg) (a0 a n : Nat) (b j : Nat) : (sC σ a0 a 0 0 n).1 b j = if b = a ∧ j < n then σ.1 a0 j else σ.1 b j := by
  unfold sC
  show (if b = a ∧ 0 ≤ j ∧ j < 0 + n then σ.1 a0 (0 + (j - 0)) else σ.1 b j) = _
  simp only [Nat.zero_le, true_and, Nat.zero_add, Nat.sub_zero]
def isU (a : Nat) : Prop := a = 87 ∨ a = 92 ∨ a = 97
theorem isU.s0 {a : Nat} (h : isU a) : (SH a).1 = 8 := by rcases h with rfl | rfl | rfl <;> rfl
theorem isU.s1 {a : Nat} (h : isU a) : SH (a + 1) = (14, 6) := by rcases h with rfl | rfl | rfl <;> rfl
theorem isU.s2 {a : Nat} (h : isU a) : SH (a + 2) = (14, 6) := by rcases h with rfl | rfl | rfl <;> rfl
theorem isU.s3 {a : Nat} (h : isU a) : SH (a + 3) = (14, 6) := by rcases h with rfl | rfl | rfl <;> rfl
def SU (a : Nat) (b k : Nat) : Bool := (b == a && (k == 3 || k == 4)) || b == a + 1 || b == a + 2 || b == a + 3
theorem clear_sp {a : Nat} (ha : isU a) {σ : Sg} {d : Nat} : ∃ σ', f_Village_clear (d + 2) a σ = rV σ' ∧ (∀ x : Nat, x < 6 → σ'.1 (a + 1) x = zI 0 ∧ σ'.1 (a + 2) x = zI 0 ∧ σ'.1 (a + 3) x = zI 0) ∧ Fr (fun b _ => b == a + 1 || b == a + 2 || b == a + 3) σ σ' := by
  obtain ⟨s1, e1, z1, F1, -⟩ := fill_sp ha.s1 (by decide) (v := 0) (σ := σ) (d := d)
  obtain ⟨s2, e2, z2, F2, -⟩ := fill_sp ha.s2 (by decide) (v := 0) (σ := s1) (d := d)
  obtain ⟨s3, e3, z3, F3, -⟩ := fill_sp ha.s3 (by decide) (v := 0) (σ := s2) (d := d)
  refine ⟨s3, ?_, fun x hx => ⟨?_, ?_, ?_⟩, ((F1.mono ?_).tr (F2.mono ?_)).tr (F3.mono ?_)⟩
  · rw [f_Village_clear_eq, gfS_of ha.s0, ofs_8_0, e1, cV_rV, gfS_of ha.s0, ofs_8_1, e2, cV_rV, gfS_of ha.s0, ofs_8_2, e3, cV_rV]
  · rw [F3.2 _ _ (by simp), F2.2 _ _ (by simp), z1 x hx]; exact zI_0
  · rw [F3.2 _ _ (by simp), z2 x hx]; exact zI_0
  · rw [z3 x hx]; exact zI_0
  all_goals (intro b k; simp; try omega)
theorem copy_sp {a b : Nat} (ha : isU a) (hb : isU b) (hab : a ≠ b) {k : Int} (k0 : 0 ≤ k) (k6 : k ≤ 6) {σ : Sg} {d : Nat} : ∃ σ', f_Village_copy (d + 3) a b (zI k) σ = rV σ' ∧ (∀ x : Nat, x < 6 → σ'.1 (a + 1) x = (if (x : Int) < k then σ.1 (b + 1) x else zI 0) ∧ σ'.1 (a + 2) x = (if (x : Int) < k then σ.1 (b + 2) x else zI 0) ∧ σ'.1 (a + 3) x = (if (x : Int) < k then σ.1 (b + 3) x else zI 0)) ∧ σ'.1 a 3 = σ.1 b 3 ∧ σ'.1 a 4 = σ.1 b 4 ∧ Fr (SU a) σ σ' := by
  have hd : a ≠ b + 1 ∧ a ≠ b + 2 ∧ a ≠ b + 3 ∧ b ≠ a + 1 ∧ b ≠ a + 2 ∧ b ≠ a + 3 ∧ a + 1 ≠ b + 2 ∧ a + 1 ≠ b + 3 ∧ a + 2 ≠ b + 3 ∧ a + 2 ≠ b + 1 ∧ a + 3 ≠ b + 1 ∧ a + 3 ≠ b + 2 := by
    unfold isU at ha hb; omega
  obtain ⟨s1, e1, z1, F1⟩ := clear_sp ha (σ := σ) (d := d)
  generalize hs2 : sC s1 (b + 1) (a + 1) 0 0 k.toNat = s2
  generalize hs3 : sC s2 (b + 2) (a + 2) 0 0 k.toNat = s3
  generalize hs4 : sC s3 (b + 3) (a + 3) 0 0 k.toNat = s4
  generalize hs5 : sI s4 a 3 (s4.1 b 3) = s5
  have c2 : ∀ c j, s2.1 c j = if c = a + 1 ∧ j < k.toNat then s1.1 (b + 1) j else s1.1 c j := fun c j => by rw [← hs2, sC_1]
  have c3 : ∀ c j, s3.1 c j = if c = a + 2 ∧ j < k.toNat then s2.1 (b + 2) j else s2.1 c j := fun c j => by rw [← hs3, sC_1]
  have c4 : ∀ c j, s4.1 c j = if c = a + 3 ∧ j < k.toNat then s3.1 (b + 3) j else s3.1 c j := fun c j => by rw [← hs4, sC_1]
  have q1 : ∀ c, c ≠ a + 1 → c ≠ a + 2 → c ≠ a + 3 → ∀ j, s1.1 c j = σ.1 c j := fun c h1 h2 h3 j => F1.2 _ _ (by simp [h1, h2, h3])
  have q4 : ∀ c, c ≠ a + 1 → c ≠ a + 2 → c ≠ a + 3 → ∀ j, s4.1 c j = σ.1 c j := fun c h1 h2 h3 j => by
    rw [c4, if_neg (fun z => h3 z.1), c3, if_neg (fun z => h2 z.1), c2, if_neg (fun z => h1 z.1), q1 c h1 h2 h3]
  refine ⟨sI s5 a 4 (s5.1 b 4), ?_, fun x hx => ⟨?_, ?_, ?_⟩, ?_, ?_, ?_⟩
  · rw [f_Village_copy_eq, gdK_of ha.s0, e1, cV_rV, gfS_of hb.s0, ofs_8_0, gfS_of ha.s0, ofs_8_0, acp_of hb.s1 ha.s1 k0 k6 k6 (by omega), hs2, gfS_of hb.s0, ofs_8_1, gfS_of ha.s0, ofs_8_1, acp_of hb.s2 ha.s2 k0 k6 k6 (by omega), hs3, gfS_of hb.s0, ofs_8_2, gfS_of ha.s0, ofs_8_2, acp_of hb.s3 ha.s3 k0 k6 k6 (by omega), hs4, gfI_of hb.s0, pfI_of ha.s0, hs5, gfI_of hb.s0, pfI_of ha.s0]
  · rw [sI_row _ _ _ _ _ (by omega), ← hs5, sI_row _ _ _ _ _ (by omega), c4, if_neg (by omega), c3, if_neg (by omega), c2]
    by_cases q : (x : Int) < k
    · rw [if_pos ⟨rfl, by omega⟩, if_pos q, q1 _ (by omega) (by omega) (by omega)]
    · rw [if_neg (by omega), if_neg q]; exact (z1 x hx).1
  · rw [sI_row _ _ _ _ _ (by omega), ← hs5, sI_row _ _ _ _ _ (by omega), c4, if_neg (by omega), c3]
    by_cases q : (x : Int) < k
    · rw [if_pos ⟨rfl, by omega⟩, if_pos q, c2, if_neg (by omega), q1 _ (by omega) (by omega) (by omega)]
    · rw [if_neg (by omega), if_neg q, c2, if_neg (by omega)]; exact (z1 x hx).2.1
  · rw [sI_row _ _ _ _ _ (by omega), ← hs5, sI_row _ _ _ _ _ (by omega), c4]
    by_cases q : (x : Int) < k
    · rw [if_pos ⟨rfl, by omega⟩, if_pos q, c3, if_neg (by omega), c2, if_neg (by omega), q1 _ (by omega) (by omega) (by omega)]
    · rw [if_neg (by omega), if_neg q, c3, if_neg (by omega), c2, if_neg (by omega)]; exact (z1 x hx).2.2
  · rw [sI_slot _ _ _ _ (by decide), ← hs5, sI_same, q4 b (by omega) (by omega) (by omega)]
  · rw [sI_same, ← hs5, sI_row _ _ _ _ _ (fun z => hab z.symm), q4 b (by omega) (by omega) (by omega)]
  · have F4 : Fr (SU a) σ s4 := ⟨by rw [← hs4, ← hs3, ← hs2]; exact F1.1, fun c j e => by
      simp [SU] at e
      exact q4 c (by omega) (by omega) (by omega) j⟩
    rw [← hs5]
    exact (F4.sI _ (by simp [SU])).sI _ (by simp [SU])
theorem copies_sp {a b : Nat} (ha : SH a = (14, 20)) (hb : SH b = (14, 20)) (hab : a ≠ b) {σ : Sg} {d : Nat} : ∃ σ', f_M_copies (d + 1) a b σ = rV σ' ∧ (∀ j : Nat, j < 20 → σ'.1 b j = σ.1 a j) ∧ Fr (fun c _ => c == b) σ σ' := by
  rw [f_M_copies_eq, zI_0]
  refine zloop 20 (fun i (τ : Sg) => f_M_copies_2 d a b (zI i) τ) (fun i τ => 0 ≤ i ∧ (∀ j : Nat, (j : Int) < i → τ.1 b j = σ.1 a j) ∧ Fr (fun c _ => c == b) σ τ) (fun o => ∃ σ', o = rV σ' ∧ (∀ j : Nat, j < 20 → σ'.1 b j = σ.1 a j) ∧ Fr (fun c _ => c == b) σ σ') ?_ ?_ 0 σ (by decide) ⟨by decide, fun j h => by omega, Fr.rf _ _⟩
  · rintro i τ hi ⟨h0, h1, F⟩
    refine Or.inr ⟨sI τ b i.toNat (τ.1 a i.toNat), ?_, by omega, fun j hj => ?_, F.sI _ (by simp)⟩
    · show f_M_copies_2 d a b (zI i) τ = _
      rw [f_M_copies_2_eq, zI_lit, if_pos (by rw [zI_le (by omega) (by decide)]; exact hi), ldi_of ha h0 hi (by omega), stv_of hb h0 hi (by omega), zI_lit, zI_add]
    · by_cases q : j = i.toNat
      · rw [q, sI_same, F.2 a _ (by simpa using hab)]
      · rw [sI_slot _ _ _ _ q]; exact h1 j (by omega)
  · rintro τ ⟨h0, h1, F⟩
    refine ⟨τ, ?_, fun j hj => h1 j (by omega), F⟩
    show f_M_copies_2 d a b (zI 20) τ = _
    rw [f_M_copies_2_eq, zI_lit, if_neg Int32.lt_irrefl]
/-! the invariant's village as numbers -/
def vOf (σ : Sg) (a : Nat) : Int → Int := fun k => if k < 6 then rd σ (a + 1) k else if k < 12 then rd σ (a + 2) (k - 6) else if k < 18 then rd σ (a + 3) (k - 12) else if k = 18 then rd σ a 3 else if k = 19 then rd σ a 4 else if k = 20 then rd σ a 5 else if k = 21 then rd σ a 6 else rd σ a 7
theorem vOf_VC (σ : Sg) (a : Nat) : VC a (vOf σ a) σ := by
  refine ⟨fun x x0 x6 => ⟨?_, ?_, ?_⟩, ?_, ?_, ?_, ?_, ?_⟩
  · unfold vOf; rw [if_pos x6, rd_k, toNat_c x0]
  · unfold vOf; rw [if_neg (by omega), if_pos (by omega), rd_k, toNat_c x0, show 6 + x - 6 = x by omega]
  · unfold vOf; rw [if_neg (by omega), if_neg (by omega), if_pos (by omega), rd_k, toNat_c x0, show 12 + x - 12 = x by omega]
  all_goals exact rd_k _ _ _
theorem VOk.vb {n : Int} {σ : Sg} {a : Nat} (h : VOk n σ a) : VB n (vOf σ a) := by
  obtain ⟨h1, h2⟩ := h
  refine ⟨fun k k0 k1 => ?_, fun x z0 z1 z2 => ?_, ?_⟩
  · unfold vOf
    split
    · have := h1 k k0 (by omega); omega
    · split
      · have := h1 (k - 6) (by omega) (by omega); omega
      · have := h1 (k - 12) (by omega) (by omega); omega
  · have := h1 x z1 z2
    unfold vOf
    rw [if_pos (by omega), if_neg (by omega), if_pos (by omega), if_neg (by omega), if_neg (by omega), if_pos (by omega), show 6 + x - 6 = x by omega, show 12 + x - 12 = x by omega]
    omega
  · exact h2
theorem VEq.vm {σ : Sg} {a b : Nat} (h : VEq σ a b) : ∀ k : Int, 0 ≤ k → k < 20 → σ.1 b k.toNat = zI (vOf σ a k) := by
  intro k k0 k1
  rw [rd_k, toNat_c k0]
  refine congrArg zI ?_
  unfold vOf
  split
  · exact (h.1 k k0 (by omega)).1
  · split
    · have := (h.1 (k - 6) (by omega) (by omega)).2.1; rwa [show 6 + (k - 6) = k by omega] at this
    · split
      · have := (h.1 (k - 12) (by omega) (by omega)).2.2; rwa [show 12 + (k - 12) = k by omega] at this
      · split
        · rename_i e; subst e; exact h.2.1
        · rw [if_pos (by omega)]; have : k = 19 := by omega
          subst this; exact h.2.2
theorem V_mk {n : Int} {v : Int → Int} {σ : Sg} {a b : Nat} (h1 : VR a v σ) (h2 : σ.1 a 3 = zI (v 18)) (h3 : σ.1 a 4 = zI (v 19)) (hb : VB n v) (h4 : ∀ k : Int, 0 ≤ k → k < 20 → σ.1 b k.toNat = zI (v k)) : VOk n σ a ∧ VEq σ a b := by
  obtain ⟨b1, b2, b3, b4, b5, b6⟩ := hb
  have r1 : ∀ x, 0 ≤ x → x < 6 → rd σ (a + 1) x = v x ∧ rd σ (a + 2) x = v (6 + x) ∧ rd σ (a + 3) x = v (12 + x) := fun x x0 x6 => by
    obtain ⟨p1, p2, p3⟩ := h1 x x0 x6
    have q1 := b1 x x0 (by omega); have q2 := b1 (6 + x) (by omega) (by omega); have q3 := b1 (12 + x) (by omega) (by omega)
    unfold rd
    rw [p1, p2, p3, zI_toInt (by omega) (by omega), zI_toInt (by omega) (by omega), zI_toInt (by omega) (by omega)]
    exact ⟨rfl, rfl, rfl⟩
  have r3 : rd σ a 3 = v 18 := by show (σ.1 a 3).toInt = _; rw [h2, zI_toInt (by omega) (by omega)]
  have r4 : rd σ a 4 = v 19 := by show (σ.1 a 4).toInt = _; rw [h3, zI_toInt (by omega) (by omega)]
  have r5 : ∀ k, 0 ≤ k → k < 20 → rd σ b k = v k := fun k k0 k1 => by
    show (σ.1 b k.toNat).toInt = _
    rw [h4 k k0 k1]
    by_cases q : k < 18
    · have := b1 k k0 q; exact zI_toInt (by omega) (by omega)
    · have : k = 18 ∨ k = 19 := by omega
      rcases this with rfl | rfl <;> exact zI_toInt (by omega) (by omega)
  refine ⟨⟨fun x x0 x6 => ?_, by omega⟩, fun x x0 x6 => ?_, ?_, ?_⟩
  · obtain ⟨p1, p2, p3⟩ := r1 x x0 x6
    have q1 := b1 x x0 (by omega); have q2 := b1 (6 + x) (by omega) (by omega); have q3 := b1 (12 + x) (by omega) (by omega)
    rw [p1, p2, p3]
    exact ⟨q1.1, q1.2, q2.1, q2.2, q3.1, q3.2, fun q => b2 x q x0 x6⟩
  · obtain ⟨p1, p2, p3⟩ := r1 x x0 x6
    rw [p1, p2, p3, r5 x x0 (by omega), r5 (6 + x) (by omega) (by omega), r5 (12 + x) (by omega) (by omega)]; exact ⟨rfl, rfl, rfl⟩
  · rw [r5 18 (by decide) (by decide), r3]
  · rw [r5 19 (by decide) (by decide), r4]
theorem IRule.mr {σ : Sg} {r : Nat} (h : IRule r σ) : MR σ (rd σ r 0) (rd σ (r + 1)) (rd σ (r + 2)) (rd σ (r + 3)) := by
  obtain ⟨⟨-, -, h1, h2⟩, h3, h4, h5⟩ := h
  refine ⟨h4, by omega, h1, fun x x0 x1 => ?_⟩
  obtain ⟨⟨a1, a2, a3, a4, a5, a6⟩, b1, b2, -⟩ := h2 x x0 x1
  exact ⟨(h5 x x0 x1).1, (h5 x x0 x1).2, a1, a2, a3, a4, a5, a6, b1, b2⟩
