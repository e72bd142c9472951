theorem wA_sp {d : Nat} {f n s : Int} {T : Int → Int} {σ : Sg} (ht : MT f n T σ) (f0 : 0 ≤ f) (fn : f + n ≤ 260) (tb : ∀ j, 0 ≤ j → j < n → 0 ≤ T j ∧ T j < 256) {k : Nat} {i : Int} (ik : i + k = n) (i0 : 0 ≤ i) (hA : ∀ k', k = k' + 1 → wA d f n s T σ k' (i + 1)) (hA' : ∀ k', k = k' + 2 → wA d f n s T σ k' (i + 1 + 1)) (hB : ∀ k', k = k' + 1 → wB d f n s T σ k' (i + 1)) : wA d f n s T σ k i := by
  intro W τ x1 x2 x3 y1 y2 y5 y6 F h hk e40 e41 nd n41 ne
  obtain ⟨h1, h2, h3, h4, h5, h6, h7⟩ := id h
  obtain ⟨o0, o1⟩ := hk.o
  obtain ⟨s0, s1⟩ := hk.s
  obtain ⟨t0, t1⟩ := wTimes_bd hk
  obtain ⟨a0, a1⟩ := wStart_bd hk i0
  have eh := here_sp (d := d + 1) (ht.fr F fun _ => rfl) h4 h5 f0 fn i0 (by omega)
  have cb : -1 ≤ (if i < n then T i else -1) ∧ (if i < n then T i else -1) < 256 := by
    split
    · have := tb i i0 (by assumption); omega
    · omega
  rw [f_M_readsStep_4_eq, eh, cI_rI, show (40 : Int32) = zI 40 from zI_lit 40]
  by_cases q : (if i < n then T i else -1) = 40
  · have i1 : i < n := by
      by_cases z : i < n
      · exact z
      · rw [if_neg z] at q; omega
    have q' : T i = 40 := by rw [if_pos i1] at q; exact q
    obtain ⟨k', rfl⟩ : ∃ k', k = k' + 1 := ⟨k - 1, by omega⟩
    have wb : wByte W i (T i) = wOpen W i := if_pos q'
    rw [if_pos (congrArg zI q)]
    by_cases o2 : W.op = 2
    · have wo : wOpen W i = Sum.inl (-5000 - i) := if_pos o2
      rw [h2, show (2 : Int32) = zI 2 from zI_lit 2, if_pos (congrArg zI o2), h4, h3, zI_sub, show f + i - f = i by omega, show (5 : Int32) = zI 5 from zI_lit 5, wrongAt_sp, cI_rI]
      refine wFin_bad (σ' := sI τ 102 10 (zI (-5000 - i))) (F.sI _ rfl) (wRun_b (wb.trans wo)) ?_ ⟨W.size, (sI_slot _ _ _ _ (by decide)).trans h1, by omega, by omega⟩
      rw [rZ_z0, cI_rI]
      exact loop0
    · have wo : wOpen W i = Sum.inr (WS.mk W.size (W.op + 1) 0 true W.st W.pl (fun x => if x = W.op then wStart W i else W.oa x) (fun x => if x = W.op then wTimes W else W.ot x) (fun x => if x = W.op then W.size else W.os x)) := if_neg o2
      generalize hτ : sI (sI (sI (sI (sI τ 126 W.op.toNat (zI (f + wStart W i))) 127 W.op.toNat (zI W.size)) 128 W.op.toNat (zI (wTimes W))) 102 39 (zI (W.op + 1))) 102 8 (zI (f + (i + 1))) = τ1
      have F1 : Fr SMw σ τ1 := hτ ▸ ((((F.sI _ rfl).sI _ rfl).sI _ rfl).sI _ rfl).sI _ rfl
      have st : (if τ.1 102 39 = 2 then (cI (f_M_wrongAt (d + 2) 5 (τ.1 102 8 - τ.1 102 42) τ) fun v4 σ3 => rZ v4 σ3) else (bnd (τ.1 102 39) 2 (let σ5 := sI τ 126 (ix (τ.1 102 39)) (τ.1 102 40);
          bnd (σ5.1 102 39) 2 (let σ6 := sI σ5 127 (ix (σ5.1 102 39)) (σ5.1 102 38);
          bnd (σ6.1 102 39) 2 (let σ7 := sI σ6 128 (ix (σ6.1 102 39)) (σ6.1 102 41);
          let σ8 := sI σ7 102 39 (σ7.1 102 39 + 1);
          let σ9 := sI σ8 102 8 (σ8.1 102 8 + 1);
          cV (f_M_readsTimes (d + 2) σ9) fun σ10 => f_M_readsStep_4 (d + 2) x1 x2 x3 σ10))))) = cV (f_M_readsTimes (d + 2) τ1) fun σ10 => f_M_readsStep_4 (d + 2) x1 x2 x3 σ10 := by
        rw [h2, show (2 : Int32) = zI 2 from zI_lit 2, if_neg (by rw [zI_eq (by omega) (by decide)]; exact o2), bnd_zI o0 (by omega) (by omega), ix_zI o0 (by omega), e40]
        show (bnd (τ.1 102 39) 2 (bnd (τ.1 102 39) 2 _)) = _
        rw [h2, bnd_zI o0 (by omega) (by omega), bnd_zI o0 (by omega) (by omega)]
        show (cV (f_M_readsTimes (d + 2) (sI (sI (sI (sI (sI τ 126 W.op.toNat (zI (f + wStart W i))) 127 (ix (τ.1 102 39)) (τ.1 102 38)) 128 (ix (τ.1 102 39)) (τ.1 102 41)) 102 39 (τ.1 102 39 + 1)) 102 8 (τ.1 102 8 + 1))) _) = _
        rw [h2, h1, e41, h4, ix_zI o0 (by omega), show (1 : Int32) = zI 1 from zI_lit 1, zI_add, zI_add, Int.add_assoc, hτ]
      rw [st, wRun_s (wb.trans wo)]
      refine wStep_sp ht f0 fn tb (by omega) (by omega) (hA k' rfl) (fun k'' e => hA' k'' (by omega)) F1 ?_ (wOpen_k hk i0 wo) rfl (fun _ _ => Or.inr rfl) (fun _ => Or.inl rfl)
      rw [← hτ]
      refine ⟨?_, ?_, ?_, sI_same _ _ _ _, ?_, fun x x0 x1 => ?_, fun x x0 x1 => ?_⟩
      · exact h1
      · rfl
      · exact h3
      · exact h5
      · exact h6 x x0 x1
      · have x1 : x < W.op + 1 := x1
        show _ = zI (f + if x = W.op then wStart W i else W.oa x) ∧ _ = zI (if x = W.op then W.size else W.os x) ∧ _ = zI (if x = W.op then wTimes W else W.ot x)
        rw [sI_row (b := 126) _ _ _ _ _ (by decide), sI_row (b := 126) _ _ _ _ _ (by decide), sI_row (b := 126) _ _ _ _ _ (by decide), sI_row (b := 126) _ _ _ _ _ (by decide), sI_row (b := 127) _ _ _ _ _ (by decide), sI_row (b := 127) _ _ _ _ _ (by decide), sI_row (b := 127) _ _ _ _ _ (by decide), sI_row (b := 128) _ _ _ _ _ (by decide), sI_row (b := 128) _ _ _ _ _ (by decide)]
        by_cases z : x = W.op
        · subst z
          rw [sI_same, sI_same, sI_same, if_pos rfl, if_pos rfl, if_pos rfl]; exact ⟨rfl, rfl, rfl⟩
        · have hx := h7 x x0 (by omega)
          rw [if_neg z, if_neg z, if_neg z]
          exact ⟨(sI_slot _ _ _ _ (by omega)).trans hx.1, (sI_slot _ _ _ _ (by omega)).trans ((sI_row _ _ _ _ _ (by decide : (127 : Nat) ≠ 126)).trans hx.2.1), (sI_slot _ _ _ _ (by omega)).trans ((sI_row _ _ _ _ _ (by decide : (128 : Nat) ≠ 127)).trans ((sI_row _ _ _ _ _ (by decide : (128 : Nat) ≠ 126)).trans hx.2.2))⟩
  · rw [if_neg (by rw [zI_eq (by omega) (by decide)]; exact q), eh, cI_rI, kindOf_sp cb, cI_rI]
    have kb := kOf_bd (if i < n then T i else -1)
    by_cases z : kOf (if i < n then T i else -1) = -1
    · rw [show (-1 : Int32) = zI (-1) from rfl, if_pos (congrArg zI z), h4, h3, zI_sub, show f + i - f = i by omega, show (1 : Int32) = zI 1 from zI_lit 1, wrongAt_sp, cI_rI]
      refine wFin_bad (u := -1000 - i) (σ' := sI τ 102 10 (zI (-1000 - i))) (F.sI _ rfl) ?_ (by rw [rZ_z0, cI_rI]; exact loop0) ⟨W.size, (sI_slot _ _ _ _ (by decide)).trans h1, by omega, by omega⟩
      cases k with
      | zero =>
        have en : i = n := by omega
        exact if_pos (ne en)
      | succ k' =>
        have i1 : i < n := by omega
        rw [if_pos i1] at q z
        refine wRun_b ?_
        unfold wByte
        rw [if_neg q]
        by_cases c41 : T i = 41
        · rw [if_pos c41, if_pos (n41 i1 c41)]
        · rw [if_neg c41, if_neg (fun g => nd g.2.2 i1 ⟨g.1, g.2.1⟩), if_pos z]
    · have i1 : i < n := by
        by_cases y : i < n
        · exact y
        · rw [if_neg y] at z; exact absurd rfl z
      obtain ⟨k', rfl⟩ : ∃ k', k = k' + 1 := ⟨k - 1, by omega⟩
      rw [if_pos i1] at q z kb ⊢
      have wb : wByte W i (T i) = wAdd W i (kOf (T i)) := by
        unfold wByte
        rw [if_neg q, if_neg (fun g => z (by rw [g]; rfl)), if_neg (fun g => nd g.2.2 i1 ⟨g.1, g.2.1⟩), if_neg z]
      rw [show (-1 : Int32) = zI (-1) from rfl, if_neg (by rw [zI_eq (by omega) (by decide)]; exact z), h1, e41, e40, h3, zI_add, zI_sub, show f + wStart W i - f = wStart W i by omega, show (24 : Int32) = zI 24 from zI_lit 24, show (6 : Int32) = zI 6 from zI_lit 6]
      by_cases big : 24 < W.size + wTimes W
      · have wo : wAdd W i (kOf (T i)) = Sum.inl (-6000 - wStart W i) := if_pos big
        rw [if_pos (by rw [zI_le (by omega) (by omega)]; exact big), wrongAt_sp, cI_rI]
        exact wFin_bad (u := -6000 - wStart W i) (σ' := sI τ 102 10 (zI (-6000 - wStart W i))) (F.sI _ rfl) (wRun_b (wb.trans wo)) (by rw [rZ_z0, cI_rI]; exact loop0) ⟨W.size, (sI_slot _ _ _ _ (by decide)).trans h1, by omega, by omega⟩
      · have wo : wAdd W i (kOf (T i)) = Sum.inr (WS.mk (W.size + wTimes W) W.op 0 false (fun x => if x < W.size then W.st x else kOf (T i)) (fun x => if x < W.size then W.pl x else i) W.oa W.ot W.os) := if_neg big
        rw [if_neg (by rw [zI_le (by omega) (by omega)]; exact big), bnd_zI s0 (by omega) (by omega), ix_zI s0 (by omega)]
        have p : sI (sI (sI (sI τ 124 W.size.toNat (zI (kOf (T i)))) 125 (ix (τ.1 102 38)) (τ.1 102 8 - τ.1 102 42)) 102 8 (τ.1 102 8 + 1)) 102 38 (τ.1 102 38 + 1) = sI (sI (sI (sI τ 124 W.size.toNat (zI (kOf (T i)))) 125 W.size.toNat (zI i)) 102 8 (zI (f + (i + 1)))) 102 38 (zI (W.size + 1)) := by
          rw [h1, h4, h3, zI_sub, show f + i - f = i by omega, show (1 : Int32) = zI 1 from zI_lit 1, zI_add, zI_add, Int.add_assoc, ix_zI s0 (by omega)]
        show wFin (d + 3) n s σ _ (cI (bnd (τ.1 102 38) 24 (cI (f_M_repeats (d + 2) ((sI (sI (sI (sI τ 124 W.size.toNat (zI (kOf (T i)))) 125 (ix (τ.1 102 38)) (τ.1 102 8 - τ.1 102 42)) 102 8 (τ.1 102 8 + 1)) 102 38 (τ.1 102 38 + 1)).1 102 38 - 1) (zI (wTimes W)) (zI (f + wStart W i) - (sI (sI (sI (sI τ 124 W.size.toNat (zI (kOf (T i)))) 125 (ix (τ.1 102 38)) (τ.1 102 8 - τ.1 102 42)) 102 8 (τ.1 102 8 + 1)) 102 38 (τ.1 102 38 + 1)).1 102 42) (sI (sI (sI (sI τ 124 W.size.toNat (zI (kOf (T i)))) 125 (ix (τ.1 102 38)) (τ.1 102 8 - τ.1 102 42)) 102 8 (τ.1 102 8 + 1)) 102 38 (τ.1 102 38 + 1))) fun v24 σ23 => if v24 = 0 then rZ 0 σ23 else f_M_readsStep_234 (d + 2) _ _ _ σ23)) _)
        rw [p, h1, bnd_zI s0 (by omega) (by omega)]
        generalize hτ : sI (sI (sI (sI τ 124 W.size.toNat (zI (kOf (T i)))) 125 W.size.toNat (zI i)) 102 8 (zI (f + (i + 1)))) 102 38 (zI (W.size + 1)) = τ1
        have F1 : Fr SMw σ τ1 := hτ ▸ (((F.sI _ rfl).sI _ rfl).sI _ rfl).sI _ rfl
        have g38 : τ1.1 102 38 = zI (W.size + 1) := by rw [← hτ]; exact sI_same _ _ _ _
        have g42 : τ1.1 102 42 = zI f := by rw [← hτ]; exact h3
        have g39 : τ1.1 102 39 = zI W.op := by rw [← hτ]; exact h2
        have g9 : τ1.1 102 9 = zI (f + n) := by rw [← hτ]; exact h5
        have g8 : τ1.1 102 8 = zI (f + (i + 1)) := by rw [← hτ]; rfl
        have gr : ∀ x, 0 ≤ x → x < W.size + 1 → τ1.1 124 x.toNat = zI (if x < W.size then W.st x else kOf (T i)) ∧ τ1.1 125 x.toNat = zI (if x < W.size then W.pl x else i) := fun x x0 x1 => by
          rw [← hτ, sI_row (b := 124) _ _ _ _ _ (by decide), sI_row (b := 124) _ _ _ _ _ (by decide), sI_row (b := 124) _ _ _ _ _ (by decide), sI_row (b := 125) _ _ _ _ _ (by decide), sI_row (b := 125) _ _ _ _ _ (by decide)]
          by_cases e : x = W.size
          · subst e
            rw [sI_same, sI_same, if_neg (by omega), if_neg (by omega)]; exact ⟨rfl, rfl⟩
          · rw [if_pos (by omega), if_pos (by omega)]
            have hx := h6 x x0 (by omega)
            exact ⟨(sI_slot _ _ _ _ (by omega)).trans hx.1, (sI_slot _ _ _ _ (by omega)).trans ((sI_row _ _ _ _ _ (by decide : (125 : Nat) ≠ 124)).trans hx.2)⟩
        rw [g38, g42, zI_sub, show f + wStart W i - f = wStart W i by omega, show (1 : Int32) = zI 1 from zI_lit 1, zI_sub, show W.size + 1 - 1 = W.size by omega]
        rcases repeats_sp (d := d) (s := wStart W i) (first := W.size) (z := W.size + 1) (t := wTimes W) s0 (by omega) (by omega) t0 t1 g38 gr with ⟨b, -⟩ | ⟨-, τ2, F2, e, e38, hr⟩
        · rw [show W.size + 1 - W.size = 1 by omega, Int.one_mul] at b; omega
        · rw [show W.size + 1 - W.size = 1 by omega, Int.one_mul] at e38 hr
          have F3 : Fr SMw σ τ2 := F1.tr (F2.mono fun a k e => by
            cases g : SRp a k with
            | false => rfl
            | true =>
              simp only [SRp, Bool.or_eq_true, Bool.and_eq_true, beq_iff_eq] at g
              rcases g with (rfl | rfl) | ⟨rfl, rfl⟩ <;> simp [SMw] at e)
          rw [e, cI_rI, if_neg (by decide), wRun_s (wb.trans wo)]
          refine hB k' rfl _ τ2 _ _ _ y1 y2 y5 y6 F3 ?_ (wAdd_k hk i0 (by omega) kb.2 wo) rfl rfl
          refine ⟨e38, (F2.2 _ _ rfl).trans g39, (F2.2 _ _ rfl).trans g42, (F2.2 _ _ rfl).trans g8, (F2.2 _ _ rfl).trans g9, fun x x0 x1 => ?_, fun x x0 x1 => ?_⟩
          · have x1 : x < W.size + wTimes W := x1
            obtain ⟨r1, r2⟩ := hr x x0 x1
            have W1 : ∀ (g : Int → Int) (v : Int), wrep (fun x => if x < W.size then g x else v) W.size 1 x = if x < W.size then g x else v := fun g v => by
              unfold wrep
              by_cases y : x < W.size
              · rw [if_pos (by omega)]
              · rw [Int.emod_one, Int.add_zero, if_neg y]
                split
                · exact if_neg y
                · exact if_neg (by omega)
            rw [W1] at r1 r2
            exact ⟨r1, r2⟩
          · rw [F2.2 126 _ rfl, F2.2 127 _ rfl, F2.2 128 _ rfl, ← hτ]
            exact h7 x x0 x1
