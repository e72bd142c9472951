/-! rule: the children, in both -/
def SRh (q a k : Nat) : Bool := a == q + 3 || (a == 5 && k == 4)
def SMh (a k : Nat) : Bool := a == 123 || (a == 102 && (k == 8 || k == 10))
theorem childrenBoth {q : Nat} (hq : isR q) {n K : Int} {T : Int → Int} (n0 : 0 ≤ n) (n20 : n ≤ 20) (k0 : 0 ≤ K) (k6 : K ≤ 6) (tb : ∀ j, 0 ≤ j → j < n → 0 ≤ T j ∧ T j < 256) {σ0 τ0 : Sg} {d d2 : Nat} :
    ∀ (b : Nat) (i : Int), i + b = K → 0 ≤ i → K + 1 + i ≤ n → NmsAt T (K + 1) i → (∀ x, 0 ≤ x → x < i → T (K + 1 + x) - 97 < K) → ∃ v : Int, -100000 < v ∧ (v < 0 ∨ v = 0 ∧ NmsAt T (K + 1) K ∧ ∀ x, 0 ≤ x → x < K → T (K + 1 + x) - 97 < K) ∧
      (∀ (σ : Sg) (s : Int32) (w : Value), Fr (SRh q) σ0 σ → CWv q n T (K + 1) i 3 σ → σ.1 q 0 = zI K → SeenN T (K + 1) i s → ∃ σ', f_Rule_readChildren_4 (d + 2) q s (zI i) w σ = rI (zI v) σ' ∧ Fr (SRh q) σ0 σ' ∧ (v = 0 → ∀ x, 0 ≤ x → x < K → σ'.1 (q + 3) x.toNat = zI (T (K + 1 + x) - 97))) ∧
      (∀ τ : Sg, Fr SMh τ0 τ → MWv n T (K + 1) i 123 τ → τ.1 102 32 = zI K → ∃ τ', f_M_readsChildren_2 (d2 + 3) (zI i) τ = rI (bz (decide (v = 0))) τ' ∧ Fr SMh τ0 τ' ∧ (v < 0 → τ'.1 102 10 = zI v) ∧ (v = 0 → ∀ x, 0 ≤ x → x < K → τ'.1 123 x.toNat = zI (T (K + 1 + x) - 97))) := by
  have hs3 := hq.s3
  have q5 : q + 3 ≠ 5 ∧ q + 3 ≠ 6 ∧ q ≠ 5 := by rcases hq with rfl | rfl <;> decide
  intro b
  induction b with
  | zero =>
    intro i hi i0 i1 hn hl
    have : i = K := by omega
    subst this
    by_cases z : i + 1 + i = n
    · refine ⟨0, by decide, Or.inr ⟨rfl, hn, hl⟩, fun σ s w F hC hk hs => ⟨σ, ?_, F, fun _ => hC.2.2⟩, fun τ F hM hk => ⟨τ, ?_, F, fun e => by omega, fun _ => hM.2.2.2⟩⟩
      · rw [f_Rule_readChildren_4_eq, gfI_of hq.s0, hk, if_neg Int32.lt_irrefl, f_Tape_end_eq, hC.2.1, hC.1.2.1, if_neg (by rw [zI_le (by omega) (by omega)]; omega), zI_0, cI_rI]
      · rw [f_M_readsChildren_2_eq, hk, if_neg Int32.lt_irrefl, hM.2.1, hM.2.2.1, if_pos (congrArg zI z)]; rfl
    · refine ⟨-1000 - (i + 1 + i), by omega, Or.inl (by omega), fun σ s w F hC hk hs => ⟨σ, ?_, F, fun e => by omega⟩, fun τ F hM hk => ⟨sI τ 102 10 (zI (-1000 - (i + 1 + i))), ?_, F.sI _ rfl, fun _ => sI_same _ _ _ _, fun e => by omega⟩⟩
      · rw [f_Rule_readChildren_4_eq, gfI_of hq.s0, hk, if_neg Int32.lt_irrefl, f_Tape_end_eq, hC.2.1, hC.1.2.1, if_pos (by rw [zI_le (by omega) (by omega)]; omega), show (1 : Int32) = zI 1 from zI_lit 1, tfaultZ hC.2.1, cI_rI, cI_rI, show (-1000 * 1 - (i + 1 + i) : Int) = -1000 - (i + 1 + i) by omega]
      · rw [f_M_readsChildren_2_eq, hk, if_neg Int32.lt_irrefl, hM.2.1, hM.2.2.1, if_neg (by rw [zI_eq (by omega) (by omega)]; exact z), show (1 : Int32) = zI 1 from zI_lit 1, wrongAt_sp, cI_rI, if_pos (by decide), show (-1000 * 1 - (i + 1 + i) : Int) = -1000 - (i + 1 + i) by omega, decide_eq_false (by omega), bz_ff, rZ_0]
  | succ b ih =>
    intro i hi i0 i1 hn hl
    have iK : i < K := by omega
    have hP : ∃ pl, pl = K + 1 + i := ⟨_, rfl⟩
    obtain ⟨pl, hpl⟩ := hP
    have hc : ∃ c, c = (if pl < n then T pl else -1) ∧ -1 ≤ c ∧ c < 256 := by
      refine ⟨_, rfl, ?_⟩
      by_cases q : pl < n
      · rw [if_pos q]; have := tb pl (by omega) q; omega
      · rw [if_neg q]; omega
    obtain ⟨c, hc, c0, c1⟩ := hc
    have nowC : ∀ σ : Sg, CT 0 n T σ → σ.1 5 4 = zI pl → ∀ d, f_Tape_now (d + 1) σ = rI (zI c) σ := fun σ h1 h2 d => by rw [nowE_sp h1 h2 (by omega) (by omega) (by omega), hc]
    have RN := fun τ : Sg => fun (hM : MWv n T (K + 1) i 123 τ) => readsName_sp (a := 123) rfl (d := d2 + 1) (g := fun x => T (K + 1 + x) - 97) hM.1 tb (by omega) (by rw [hM.2.1, ← hpl]) hM.2.2.1 (show 0 ≤ pl by omega) (by omega) i0 (by omega) fun x x0 x1 => by
      have := hn.1 x x0 x1
      exact ⟨hM.2.2.2 x x0 x1, by show 0 ≤ T (K + 1 + x) - 97; omega, by show T (K + 1 + x) - 97 < 6; omega⟩
    have mst : ∀ τ : Sg, τ.1 102 32 = zI K → f_M_readsChildren_2 (d2 + 3) (zI i) τ = cI (f_M_readsName (d2 + 3) 123 (zI i) τ) fun v2 σ1 => if v2 = 0 then rZ 0 σ1 else if (σ1.1 123 i.toNat) < (σ1.1 102 32) then f_M_readsChildren_2 (d2 + 3) (zI (i + 1)) (sI σ1 102 8 (σ1.1 102 8 + 1)) else cI (f_M_wrongAt (d2 + 3) 3 (σ1.1 102 8) σ1) fun v5 σ4 => rZ v5 σ4 := fun τ h => by
      rw [f_M_readsChildren_2_eq, h, if_pos (by rw [zI_le (by omega) (by omega)]; exact iK)]
      simp only [bnd_zI i0 (show i < (6 : Nat) by omega) (show i < 2147483648 by omega), ix_zI i0 (show i < 2147483648 by omega)]
      rw [show zI i + 1 = zI (i + 1) from by rw [show (1 : Int32) = zI 1 from zI_lit 1, zI_add]]
    by_cases ok : pl < n ∧ 97 ≤ T pl ∧ T pl ≤ 102 ∧ i < 6
    · obtain ⟨ok1, ok2, ok3, ok4⟩ := id ok
      rw [if_pos ok1] at hc
      have cst : ∀ (σ : Sg) (s : Int32) (w : Value), CT 0 n T σ → σ.1 5 4 = zI pl → σ.1 q 0 = zI K → f_Rule_readChildren_4 (d + 2) q s (zI i) w σ = if gb s (T pl - 97) = true then rI (zI (-6000 - pl)) σ else if T pl - 97 < K then f_Rule_readChildren_4 (d + 2) q (s ||| (zI 1 <<< (zI (T pl - 97) &&& zI 31))) (zI (i + 1)) (.int (zI (T pl - 97))) (sI (sI σ (q + 3) i.toNat (zI (T pl - 97))) 5 4 (zI (pl + 1))) else rI (zI (-3000 - pl)) σ := fun σ s w h1 h2 h3 => by
        have h54 : (sI σ (q + 3) i.toNat (zI (T pl - 97))).1 5 4 = zI pl := (sI_row _ _ _ _ _ (Ne.symm q5.1)).trans h2
        rw [f_Rule_readChildren_4_eq, gfI_of hq.s0, h3, if_pos (by rw [zI_le (by omega) (by omega)]; exact iK), nowC σ h1 h2, cI_rI, nameOf_sp c0 c1, cI_rI, if_pos (show 97 ≤ c ∧ c ≤ 102 by omega), zI_0, if_neg (by rw [zI_le (by omega) (by decide)]; omega), show (31 : Int32) = zI 31 from zI_lit 31, show (1 : Int32) = zI 1 from zI_lit 1, hc, sh_bz s (by omega) (by omega), gfI_of hq.s0, h3, gfS_of hq.s0, ofs_6_3, stI_of hs3 i0 (by omega) (by omega), show (6 : Int32) = zI 6 from zI_lit 6, show (3 : Int32) = zI 3 from zI_lit 3, tfaultZ h2, cI_rI, tfaultZ h2, cI_rI, show (-1000 * 6 - pl : Int) = -6000 - pl by omega, show (-1000 * 3 - pl : Int) = -3000 - pl by omega]
        dsimp only
        rw [h54, zI_add, zI_add]
        cases z : gb s (T pl - 97) with
        | true => rw [bz_tt, if_neg (by decide), if_pos rfl]
        | false =>
          rw [bz_ff, if_pos (show zI 0 = zI 0 from rfl), if_neg (show ¬ (false = true) by decide)]
          by_cases y : T pl - 97 < K
          · rw [if_pos (by rw [zI_le (by omega) (by omega)]; exact y), if_pos y]
          · rw [if_neg (by rw [zI_le (by omega) (by omega)]; exact y), if_neg y]
      by_cases dup : ∃ x, 0 ≤ x ∧ x < i ∧ T (K + 1 + x) - 97 = T pl - 97
      · refine ⟨-6000 - pl, by omega, Or.inl (by omega), fun σ s w F hC hk hs => ⟨σ, ?_, F, fun e => by omega⟩, fun τ F hM hk => ⟨sI τ 102 10 (zI (-6000 - pl)), ?_, F.sI _ rfl, fun _ => sI_same _ _ _ _, fun e => by omega⟩⟩
        · rw [cst σ s w hC.1 (by rw [hC.2.1, ← hpl]) hk, if_pos ((hs _ (by omega) (by omega)).mpr dup)]
        · rw [mst τ hk, (RN τ hM).2.1 ok dup, cI_rI, if_pos (by decide), decide_eq_false (by omega), bz_ff, rZ_0]
      · by_cases y : T pl - 97 < K
        · subst hpl
          have hn1 : NmsAt T (K + 1) (i + 1) := hn.next ok2 ok3 dup
          obtain ⟨v, v0, v1, v2, v3⟩ := ih (i + 1) (by omega) (by omega) (by omega) hn1 fun x x0 x1 => by
            by_cases e : x = i
            · subst e; exact y
            · exact hl x x0 (by omega)
          refine ⟨v, v0, v1, fun σ s w F hC hk hs => ?_, fun τ F hM hk => ?_⟩
          · have hC' : CWv q n T (K + 1) (i + 1) 3 (sI (sI σ (q + 3) i.toNat (zI (T (K + 1 + i) - 97))) 5 4 (zI (K + 1 + i + 1))) := by
              refine ⟨⟨?_, ?_, fun j j0 j1 => ?_⟩, (sI_same _ _ _ _).trans (congrArg zI (by omega)), fun x x0 x1 => ?_⟩
              · rw [sI_slot _ _ _ _ (by decide), sI_row _ _ _ _ _ (Ne.symm q5.1)]; exact hC.1.1
              · rw [sI_slot _ _ _ _ (by decide), sI_row _ _ _ _ _ (Ne.symm q5.1)]; exact hC.1.2.1
              · rw [sI_row _ _ _ _ _ (by decide), sI_row _ _ _ _ _ (Ne.symm q5.2.1)]; exact hC.1.2.2 j j0 j1
              · rw [sI_row _ _ _ _ _ q5.1]
                by_cases e : x = i
                · subst e; exact sI_same _ _ _ _
                · rw [sI_slot _ _ _ _ (by omega)]; exact hC.2.2 x x0 (by omega)
            obtain ⟨σ', a1, a2⟩ := v2 _ (s ||| (zI 1 <<< (zI (T (K + 1 + i) - 97) &&& zI 31))) (.int (zI (T (K + 1 + i) - 97))) ((F.sI _ (by simp [SRh])).sI _ (by simp [SRh])) hC' (by rw [sI_row _ _ _ _ _ q5.2.2, sI_row _ _ _ _ _ (by omega)]; exact hk) (hs.next i0 ok2 ok3)
            refine ⟨σ', ?_, a2⟩
            rw [cst σ s w hC.1 hC.2.1 hk, if_neg (fun z => dup ((hs _ (by omega) (by omega)).mp z)), if_pos y]
            exact a1
          · have h32' : (sI τ 123 i.toNat (zI (T (K + 1 + i) - 97))).1 102 32 = zI K := (sI_row _ _ _ _ _ (by decide)).trans hk
            have h8' : (sI τ 123 i.toNat (zI (T (K + 1 + i) - 97))).1 102 8 = zI (K + 1 + i) := (sI_row _ _ _ _ _ (by decide)).trans hM.2.1
            have hM' : MWv n T (K + 1) (i + 1) 123 (sI (sI τ 123 i.toNat (zI (T (K + 1 + i) - 97))) 102 8 (zI (K + 1 + i + 1))) := by
              refine ⟨fun j j0 j1 => ?_, (sI_same _ _ _ _).trans (congrArg zI (by omega)), ?_, fun x x0 x1 => ?_⟩
              · rw [sI_row _ _ _ _ _ (by decide), sI_row _ _ _ _ _ (by decide)]; exact hM.1 j j0 j1
              · rw [sI_slot _ _ _ _ (by decide), sI_row _ _ _ _ _ (by decide)]; exact hM.2.2.1
              · rw [sI_row _ _ _ _ _ (by decide)]
                by_cases e : x = i
                · subst e; exact sI_same _ _ _ _
                · rw [sI_slot _ _ _ _ (by omega)]; exact hM.2.2.2 x x0 (by omega)
            obtain ⟨τ', a1, a2⟩ := v3 _ ((F.sI _ rfl).sI _ rfl) hM' ((sI_slot _ _ _ _ (by decide)).trans h32')
            refine ⟨τ', ?_, a2⟩
            rw [mst τ hk, (RN τ hM).2.2 ok dup, cI_rI, if_neg (by decide), sI_same, h32', if_pos (by rw [zI_le (by omega) (by omega)]; exact y), h8', show (1 : Int32) = zI 1 from zI_lit 1, zI_add]
            exact a1
        · refine ⟨-3000 - pl, by omega, Or.inl (by omega), fun σ s w F hC hk hs => ⟨σ, ?_, F, fun e => by omega⟩, fun τ F hM hk => ⟨sI (sI τ 123 i.toNat (zI (T pl - 97))) 102 10 (zI (-3000 - pl)), ?_, (F.sI _ rfl).sI _ rfl, fun _ => sI_same _ _ _ _, fun e => by omega⟩⟩
          · rw [cst σ s w hC.1 (by rw [hC.2.1, ← hpl]) hk, if_neg (fun z => dup ((hs _ (by omega) (by omega)).mp z)), if_neg y]
          · have h32' : (sI τ 123 i.toNat (zI (T pl - 97))).1 102 32 = zI K := (sI_row _ _ _ _ _ (by decide)).trans hk
            have h8' : (sI τ 123 i.toNat (zI (T pl - 97))).1 102 8 = zI pl := by rw [sI_row _ _ _ _ _ (by decide), hM.2.1, ← hpl]
            rw [mst τ hk, (RN τ hM).2.2 ok dup, cI_rI, if_neg (by decide), sI_same, h32', if_neg (by rw [zI_le (by omega) (by omega)]; exact y), h8', show (3 : Int32) = zI 3 from zI_lit 3, wrongAt_sp, cI_rI, rZ_z0, show (-1000 * 3 - pl : Int) = -3000 - pl by omega, decide_eq_false (by omega), bz_ff]
    · refine ⟨-1000 - pl, by omega, Or.inl (by omega), fun σ s w F hC hk hs => ⟨σ, ?_, F, fun e => by omega⟩, fun τ F hM hk => ⟨sI τ 102 10 (zI (-1000 - pl)), ?_, F.sI _ rfl, fun _ => sI_same _ _ _ _, fun e => by omega⟩⟩
      · have ep : σ.1 5 4 = zI pl := by rw [hC.2.1, ← hpl]
        have bad : ¬ (97 ≤ c ∧ c ≤ 102) := fun z => by
          by_cases u : pl < n
          · rw [if_pos u] at hc; exact ok ⟨u, by omega, by omega, by omega⟩
          · rw [if_neg u] at hc; omega
        rw [f_Rule_readChildren_4_eq, gfI_of hq.s0, hk, if_pos (by rw [zI_le (by omega) (by omega)]; exact iK), nowC σ hC.1 ep, cI_rI, nameOf_sp c0 c1, cI_rI, if_neg bad, if_pos (by decide), show (1 : Int32) = zI 1 from zI_lit 1, tfaultZ ep, cI_rI, show (-1000 * 1 - pl : Int) = -1000 - pl by omega]
      · rw [mst τ hk, (RN τ hM).1 ok, cI_rI, if_pos (by decide), decide_eq_false (by omega), bz_ff, rZ_0]
