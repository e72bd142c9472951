/-! settle: all names from the heads' -/
def HdOk (m : Int) (F G D hd : Int → Int) : Prop := ∀ q, 0 ≤ q → q < m → 0 ≤ hd q ∧ hd q ≤ q ∧ Hs m F G D q (hd q) ∧ ∀ y, 0 ≤ y → y < m → Hs m F G D q y → hd q ≤ y
def JA (n m : Int) (W H M S F G D hd : Int → Int) (i : Int) (g : Int → Int) : Prop := (∀ y, 0 ≤ y → y < m → -1 ≤ g y ∧ g y < n) ∧ (∀ y, 0 ≤ y → y < m → hd y = y → g y = i) ∧ ∀ h c, 0 ≤ h → h < m → hd h = h → Cs n m W H M S F G D h c → c h = i → ∀ y, 0 ≤ y → y < m → Hs m F G D h y → g y ≠ -1 → g y = c y
def Edg (S F G D : Int → Int) (q o st : Int) : Prop := o = F q ∧ st = 0 ∨ o = G q ∧ st = 1 ∨ o = D q ∧ st = if S q = 0 then 3 else 2
theorem edg_c {n m : Int} {W H C M S T F G D : Int → Int} (nm : NmOk n W H C M) (rl : RlOk n m S T F G D) {q o st : Int} (q0 : 0 ≤ q) (q1 : q < m) (o0 : 0 ≤ o) (e : Edg S F G D q o st) : o < m ∧ Hs m F G D q o ∧ (st = 0 ∨ st = 1 ∨ st = 2 ∨ st = 3) ∧ ∀ h c, Cs n m W H M S F G D h c → Hs m F G D h q → c o = goF W H C M st (S q) (c q) ∧ (if st = 0 ∨ st = 1 then goF W H C M 4 (S o) (c o) else spF W H (S o) (c o)) = c q := by
  obtain ⟨s01, -, -, hf, hgg, hd⟩ := rl.2.2 q q0 q1
  rcases e with ⟨rfl, rfl⟩ | ⟨rfl, rfl⟩ | ⟨rfl, e⟩
  · obtain ⟨-, f1, f2⟩ := hf.resolve_left (by omega)
    refine ⟨by omega, Hs.f q0 q1 o0, Or.inl rfl, fun h c cs hh => ?_⟩
    obtain ⟨c0, c1, cf, -⟩ := cs q q0 q1 hh
    obtain ⟨-, -, -, m0, m1, -, cm⟩ := nm.2 _ c0 c1
    obtain ⟨⟨-, -, -, -, -, wh⟩, -⟩ := nm.2 _ m0 m1
    rw [cf o0, if_pos (Or.inl rfl), f2]
    refine ⟨rfl, ?_⟩
    show C (W (H (M (c q)))) = c q
    rw [wh, cm]
  · obtain ⟨-, f1, f2⟩ := hgg.resolve_left (by omega)
    refine ⟨by omega, Hs.g q0 q1 o0, Or.inr (Or.inl rfl), fun h c cs hh => ?_⟩
    obtain ⟨c0, c1, -, cg, -⟩ := cs q q0 q1 hh
    obtain ⟨-, -, -, m0, m1, -, cm⟩ := nm.2 _ c0 c1
    rw [cg o0, if_pos (Or.inr rfl), f2]
    refine ⟨rfl, ?_⟩
    show C (M (c q)) = c q
    exact cm
  · obtain ⟨-, f1, -, f2⟩ := hd.resolve_left (by omega)
    have so := (rl.2.2 _ o0 f1).1
    refine ⟨f1, Hs.d q0 q1 o0, by rw [e]; by_cases z : S q = 0 <;> simp [z], fun h c cs hh => ?_⟩
    obtain ⟨c0, c1, -, -, cd⟩ := cs q q0 q1 hh
    obtain ⟨⟨-, -, -, -, hw, wh⟩, -⟩ := nm.2 _ c0 c1
    by_cases z : S q = 0
    · rw [if_pos z] at e
      rw [(cd o0).trans (if_pos z), e, if_neg (by decide)]
      refine ⟨rfl, ?_⟩
      unfold spF
      rw [if_neg (by omega)]; exact hw
    · rw [if_neg z] at e
      rw [(cd o0).trans (if_neg z), e, if_neg (by decide)]
      refine ⟨rfl, ?_⟩
      unfold spF
      rw [if_pos (by omega)]; exact wh
theorem JA.next {n m : Int} {W H C M S T F G D hd : Int → Int} (nm : NmOk n W H C M) (rl : RlOk n m S T F G D) {i : Int} (i0 : 0 ≤ i) {g : Int → Int} (hj : JA n m W H M S F G D hd i g) {q o st : Int} (q0 : 0 ≤ q) (q1 : q < m) (o0 : 0 ≤ o) (e : Edg S F G D q o st) (ne : g q = -1 ↔ ¬ g o = -1) : JA n m W H M S F G D hd i (nnF W H C M S g q o st) ∧ (∀ y, g y ≠ -1 → nnF W H C M S g q o st y = g y) ∧ ∃ y, 0 ≤ y ∧ y < m ∧ g y = -1 ∧ nnF W H C M S g q o st y ≠ -1 := by
  obtain ⟨o1, hqo, hst, hc⟩ := edg_c nm rl q0 q1 o0 e
  obtain ⟨j1, j2, j3⟩ := hj
  unfold nnF
  by_cases zo : g o = -1
  · have zq : g q ≠ -1 := fun z => (ne.mp z) zo
    have bq := j1 q q0 q1
    obtain ⟨v0, v1⟩ := goF_lt nm (k := st) (s := S q) (show 0 ≤ g q by omega) bq.2
    rw [if_pos zo]
    refine ⟨⟨fun y y0 y1 => ?_, fun y y0 y1 hy => ?_, fun h c h0 h1 hh cs ci y y0 y1 hy => ?_⟩, fun y hy => mup_ne fun q => hy (by rw [q]; exact zo), o, o0, o1, zo, by rw [mup_same]; omega⟩
    · by_cases u : y = o
      · subst u; rw [mup_same]; omega
      · rw [mup_ne u]; exact j1 y y0 y1
    · by_cases u : y = o
      · subst u; have := j2 y y0 y1 hy; omega
      · rw [mup_ne u]; exact j2 y y0 y1 hy
    · by_cases u : y = o
      · subst u
        intro _
        rw [mup_same]
        have hq := hy.tr hqo.sy
        rw [(hc h c cs hq).1, j3 h c h0 h1 hh cs ci q q0 q1 hq zq]
      · rw [mup_ne u]; exact j3 h c h0 h1 hh cs ci y y0 y1 hy
  · have zq : g q = -1 := ne.mpr zo
    have bo := j1 o o0 o1
    rw [if_neg zo]
    have vb : 0 ≤ (if st = 0 ∨ st = 1 then goF W H C M 4 (S o) (g o) else spF W H (S o) (g o)) ∧ (if st = 0 ∨ st = 1 then goF W H C M 4 (S o) (g o) else spF W H (S o) (g o)) < n := by
      by_cases z : st = 0 ∨ st = 1
      · rw [if_pos z]; exact goF_lt nm (by omega) bo.2
      · rw [if_neg z]; exact spF_bd nm (by omega) bo.2
    refine ⟨⟨fun y y0 y1 => ?_, fun y y0 y1 hy => ?_, fun h c h0 h1 hh cs ci y y0 y1 hy => ?_⟩, fun y hy => mup_ne fun u => hy (by rw [u]; exact zq), q, q0, q1, zq, by rw [mup_same]; omega⟩
    · by_cases u : y = q
      · subst u; rw [mup_same]; omega
      · rw [mup_ne u]; exact j1 y y0 y1
    · by_cases u : y = q
      · subst u; have := j2 y y0 y1 hy; omega
      · rw [mup_ne u]; exact j2 y y0 y1 hy
    · by_cases u : y = q
      · subst u
        intro _
        rw [mup_same, j3 h c h0 h1 hh cs ci o o0 o1 (hy.tr hqo) zo]
        exact (hc h c cs hy).2
      · rw [mup_ne u]; exact j3 h c h0 h1 hh cs ci y y0 y1 hy
def EPn (F G D g : Int → Int) (q : Int) : Prop := (0 ≤ F q → (g q = -1 ↔ g (F q) = -1)) ∧ (0 ≤ G q → (g q = -1 ↔ g (G q) = -1)) ∧ (0 ≤ D q → (g q = -1 ↔ g (D q) = -1))
theorem bz_or (a b : Bool) : (bz a ||| bz b) = bz (a || b) := by cases a <;> cases b <;> rfl
theorem stepAll {r p : Nat} {n m : Int} {W H C M S T F G D hd : Int → Int} {σ : Sg} (hx : PX r p n m W H C M S T F G D σ) {d : Nat} {i : Int} (i0 : 0 ≤ i) {g : Int → Int} {b : Bool} (hg : ∀ y, 0 ≤ y → y < m → σ.1 78 y.toNat = zI (g y)) (hj : JA n m W H M S F G D hd i g) {q o st : Int} (q0 : 0 ≤ q) (q1 : q < m) (ob : -1 ≤ o ∧ o < m) (e : Edg S F G D q o st) (hst : st = 0 ∨ st = 1 ∨ st = 2 ∨ st = 3) : ∃ σ' g' b', f_Houses_nameNext (d + 2) r p (zI q) (zI o) (zI st) σ = rI (bz b') σ' ∧ Fr S78 σ σ' ∧ (∀ y, 0 ≤ y → y < m → σ'.1 78 y.toNat = zI (g' y)) ∧ JA n m W H M S F G D hd i g' ∧ Nsp m (g, false, b) (g', false, b || b') (fun g => 0 ≤ o → (g q = -1 ↔ g o = -1)) := by
  obtain ⟨nm, ⟨n0, n6⟩, m0, m24⟩ := hx.nm
  obtain ⟨σ', g', b', a1, K, a2, a3⟩ := nameNext_sp hx (d := d) hg hj.1 q0 q1 ob.1 ob.2 hst
  refine ⟨σ', g', b', a1, K, a2, ?_⟩
  rcases a3 with ⟨rfl, rfl, u⟩ | ⟨rfl, oz, u, rfl⟩
  · refine ⟨hj, ?_⟩
    rw [Bool.or_false]
    exact Nsp.rf m _ u
  · obtain ⟨w1, w2, w3⟩ := hj.next nm hx.2.2.2.2.2 i0 q0 q1 oz e u
    refine ⟨w1, fun y _ _ hy => w2 y hy, id, fun _ => Bool.or_true _, fun z => ?_, fun _ _ => w3⟩
    have z : (b || true) = false := z
    rw [Bool.or_true] at z; cases z
