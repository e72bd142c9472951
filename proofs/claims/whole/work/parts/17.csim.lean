section CSim
variable {p : Program} {l : Launch} {e : Env} {R : Room} {s : State} {m : MethodId} {args : Array Value} {below : List Frame} {meth : Method} {c : Code} {Q : State → Prop}
variable {D : va_G} {cy : Nat → ClassId} {A : Nat → Prop} {cc : ByteArray} {mL own d : Nat} {cd : Cod} {cal : Nat → List Value → Wl → Option Wl}
theorem rtr_ref {al : List Nat} {a : Nat} : rtr al (.ref a) = .ref (al.getD (a - 4) 0) := rfl
theorem rent_obj {al : List Nat} {en : CE} (h : en.1 < 12) : rent cy al en = .inr (en.1, en.2.2.1.map (rtr al)) := by
  unfold rent
  rw [show Nat.blt en.1 12 = true from Nat.ble_eq_true_of_le h]
theorem rent_int {al : List Nat} {en : CE} (h : en.1 = 14) : rent cy al en = .inl (cy 14, en.2.1, .inl en.2.2.2) := by
  unfold rent
  rw [h]
  rfl
theorem all_iok {al l2 : List Nat} {w : Wl} {ls st : List Value} (hl : al.length = w.length) (h : aok w ls st = true) : wok w = true ∧ ls.all (iok al.length) = true ∧ st.all (iok al.length) = true := by
  unfold aok at h
  obtain ⟨h, h3⟩ := an h
  obtain ⟨h1, h2⟩ := an h
  rw [hl]
  exact ⟨h1, h2, h3⟩
theorem getD_app {al l2 : List Nat} {i : Nat} (h : i < al.length) : (al ++ l2).getD i 0 = al.getD i 0 := by
  rw [List.getD_eq_getElem?_getD, List.getD_eq_getElem?_getD, List.getElem?_append_left h]
theorem getD_end {al : List Nat} {q n : Nat} (h : al.length = n) : (al ++ [q]).getD (4 + n - 4) 0 = q := by
  rw [show 4 + n - 4 = n by omega, List.getD_eq_getElem?_getD, List.getElem?_append_right (by omega)]
  simp [h]
theorem dfl_rtr {al : List Nat} (x : Nat) : (dfl x).map (rtr al) = dfl x := by
  have h : ∀ v ∈ dfl x, rtr al v = id v := by
    intro v hv
    obtain ⟨y, -, rfl⟩ := List.mem_map.mp hv
    generalize fk x y = k
    rcases k with _ | _ | _ | k <;> rfl
  rw [List.map_congr_left h, List.map_id]
theorem fk1_ok : ∀ x, x < 12 → ∀ y, y < nf x → (!Nat.beq (fk x y) 1 || fits (kY x y) (.ref 0)) = true := by decide +kernel
theorem ref_fit {ty : FieldType} {a b : Nat} (h : fits ty (.ref a) = true) : narrow ty (.ref b) = .ref b ∧ fits ty (.ref b) = true := by
  cases ty <;> first | exact ⟨rfl, rfl⟩ | exact absurd (show false = true from h) (by decide)
theorem vok_fit {x y : Nat} {v : Value} {al : List Nat} (hx : x < 12) (hy : y < nf x) (h : vok x y v = true) : narrow (kY x y) (rtr al v) = rtr al v ∧ fits (kY x y) (rtr al v) = true := by
  have h0 := fk_ok x hx y hy
  have h1 := fk1_ok x hx y hy
  cases v with
  | int w =>
    have h : (match fk x y with | 0 => true | 3 => decide (w = 0 ∨ w = 1) | _ => false) = true := h
    match hk : fk x y with
    | 0 =>
      rw [hk] at h0
      have f1 := of_decide_eq_true (an h0).1
      rw [f1]; exact ⟨rfl, rfl⟩
    | 3 =>
      rw [hk] at h0 h
      have f1 := of_decide_eq_true (an h0).1
      have f2 := of_decide_eq_true h
      rw [f1]
      rcases f2 with rfl | rfl <;> exact ⟨rfl, rfl⟩
    | 1 => rw [hk] at h; exact absurd (show false = true from h) (by decide)
    | 2 => rw [hk] at h; exact absurd (show false = true from h) (by decide)
    | k + 4 => rw [hk] at h; exact absurd (show false = true from h) (by decide)
  | ref a =>
    have h : (match fk x y with | 1 => true | 2 => true | _ => false) = true := h
    match hk : fk x y with
    | 1 =>
      rw [hk] at h1
      exact ref_fit h1
    | 2 =>
      rw [hk] at h0
      exact ref_fit (an h0).1
    | 0 => rw [hk] at h; exact absurd (show false = true from h) (by decide)
    | k + 3 => rw [hk] at h; exact absurd (show false = true from h) (by decide)
  | _ => exact absurd (show false = true from h) (by decide)
theorem con_ok : ∀ k, k < 340 → (Nat.ble (ccl k).1 0 || (okB k && (decide ((mY k).name = "<init>") && (decide (mret k = none) && (Nat.beq (mnp k) 0 && (Nat.blt (mkd k) 12 && (Nat.ble 2 k && (!Nat.beq k 55 && !Nat.beq k 56)))))))) = true ∨ k = 0 := by decide +kernel
theorem blindC {al : List Nat} {as : List Value} {w : Wl} : FrameBlind (PrC D cy A al as w) := by
  intro a U g mk h
  obtain ⟨h0, h1, h2, h3, h4⟩ := h
  refine ⟨h0, va_K.moved (u := U) (U := U.calling g mk a) (Vm.Alike.refl U.vm) h1, h2, ?_, h4⟩
  exact NWs.warm (s := U) (State.WarmedH.refl U) h3
theorem inst_in : ∀ x, x < 12 → ((10, x, nf x, 0) : Qw) ∈ QS := by decide +kernel
theorem init_in : ∀ x, x < 12 → ((6, x, 0, 0) : Qw) ∈ QS := by decide +kernel
theorem arr_in : ∀ j, j < 4 → ((11, 12 + j, 0, 0) : Qw) ∈ QS := by decide +kernel
set_option maxHeartbeats 4000000 in
theorem csim {C S : Nat} {w' : Wl} {al0 : List Nat} (hx : p.tables.exec = Jvm.exec) (hb : c.code = cc) (hml : c.maxLocals = mL) (hown : s.vm.findClass (ocl own) = some m.cls) (hts : ∀ w ∈ TBg, w.before args s = true) (hK : va_K D vwCl (tyA cy) s) (hN : NWs s) (hA : ∀ q, s.heap.size ≤ q → A q)
    (hin : meth.name = "<init>") (hRC : R.cells = C) (hRS : R.slots = S) (hroom : d + 1 ≤ R.frames ∧ 60 + 60 * d ≤ R.locals) (hM : ConOK l D cy A cal d) (hch : chn cd = true) (hdc : okD cc cd = true) (hok : cd.all (okI own mL) = true) (hAll : ∀ k, k < 340 → okA k = true)
    (hfin : ∀ (al : List Nat) (H : Heap) (locs : List Loc) (lsA : Array Slot) (pc cu su : Nat), cu ≤ C → su ≤ S → decode cc pc = .ok (.return_, 1) → CI D cy A (al0 ++ al) w' H → va_S A s.heap H locs → W p l e R s m args below meth c H locs cu su Q (F0 m pc lsA [])) :
    ∀ (sx : Cod) (ls st : List Value) (w : Wl) (cu su : Nat) (al : List Nat) (H : Heap) (locs : List Loc) (lsA : Array Slot) (pc : Nat), Suf cd sx → hdp pc sx → Lc (al0 ++ al) ls lsA mL → CI D cy A (al0 ++ al) w H → va_S A s.heap H locs → cu ≤ C → su ≤ S →
      crun own cal C S sx ls st w cu su = some w' → W p l e R s m args below meth c H locs cu su Q (F0 m pc lsA (st.map (rtr (al0 ++ al)))) := by
  intro sx
  induction sx with
  | nil => intro ls st w cu su al H locs lsA pc _ _ _ _ _ _ _ h; exact (nsm h).elim
  | cons it tl ih =>
    intro ls st w cu su al H locs lsA pc0 hsx0 hpc hL hC hS hcu hsu h
    have hmem := hsx0.mem
    have hnx := hsx0.nx hch
    have hpc := hpc _ _ rfl
    have hdg := okD_at hdc hmem
    have hI := List.all_eq_true.mp hok _ hmem
    have hsx := hsx0.tl
    obtain ⟨pc, ins, len, x, y, z, tb⟩ := it
    dsimp only at hpc hdg hI hnx
    subst hpc
    have hwd : ∀ {pp : Nat} {w : Qw}, wdi pp w = true → goodWord (dw w) = true → (dw w).before args s = true := fun h1 h2 => hts _ (mem_good (wd_of h1) h2)
    obtain ⟨hP, hD, hl⟩ := hC
    cases ins
    case aload_n ii =>
      obtain ⟨h1, h2⟩ := an hI
      have hl1 := beqN h1; subst hl1
      have h : (match lgt ls x with | .ref a => crun own cal C S tl ls (.ref a :: st) w cu su | _ => none) = some w' := h
      split at h
      · rename_i v hv
        have hv2 := hL.2.2 x (by rw [hv]; exact fun q => by cases q)
        rw [hv] at hv2
        exact lv_aload_n hx hb hdg (beqN h2) hv2 (ih ls (.ref v :: st) w cu su al H locs lsA (pc + 1) hsx hnx hL ⟨hP, hD, hl⟩ hS hcu hsu h)
      · exact (nsm h).elim
    case iconst nn =>
      obtain ⟨h1, h2⟩ := an hI
      have hl1 := beqN h1; subst hl1
      exact lv_iconst (v := z) hx hb hdg (of_decide_eq_true h2) (ih ls (.int z :: st) w cu su al H locs lsA (pc + 1) hsx hnx hL ⟨hP, hD, hl⟩ hS hcu hsu h)
    case bipush nn =>
      obtain ⟨h1, h2⟩ := an hI
      have hl1 := beqN h1; subst hl1
      exact lv_bipush (v := z) hx hb hdg (of_decide_eq_true h2) (ih ls (.int z :: st) w cu su al H locs lsA (pc + 2) hsx hnx hL ⟨hP, hD, hl⟩ hS hcu hsu h)
    case sipush nn =>
      obtain ⟨h1, h2⟩ := an hI
      have hl1 := beqN h1; subst hl1
      exact lv_sipush (v := z) hx hb hdg (of_decide_eq_true h2) (ih ls (.int z :: st) w cu su al H locs lsA (pc + 3) hsx hnx hL ⟨hP, hD, hl⟩ hS hcu hsu h)
    case dup =>
      have hl1 := beqN hI; subst hl1
      cases st with
      | nil => exact (nsm h).elim
      | cons v r =>
        cases v with
        | ref a => exact lv_dup hx hb hdg rfl (ih (ls := ls) (st := .ref a :: .ref a :: r) w cu su al H locs lsA (pc + 1) hsx hnx hL ⟨hP, hD, hl⟩ hS hcu hsu h)
        | _ => exact (nsm h).elim
    case new ii =>
      obtain ⟨h1, h2⟩ := an hI
      have hl1 := beqN h1; subst hl1
      replace h : (match aok w ls st && (Nat.blt x 12 && (Nat.ble (cu + 1) C && Nat.ble (su + nf x) S)) with
        | true => crun own cal C S tl ls (.ref (4 + w.length) :: st) (w ++ ([(x, nf x, dfl x, fun _ => 0)] : Wl)) (cu + 1) (su + nf x)
        | false => none) = some w' := h
      split at h
      · rename_i g
        obtain ⟨g1, g2⟩ := an g
        obtain ⟨g2, g3⟩ := an g2
        obtain ⟨g3, g4⟩ := an g3
        have hx12 := bltN g2
        have g3 := Nat.le_of_ble_eq_true g3
        have g4 := Nat.le_of_ble_eq_true g4
        obtain ⟨a1, a2, a3⟩ := all_iok (l2 := []) hl g1
        have hlk : wdi (pl1 tb) (9, own, ii, x) = true := by
          rcases orr h2 with q | q
          · have := beqN q; omega
          · exact q
        refine va_new (D := D) (cl := vwCl) (tys := tyA cy) (ws := rws cy (al0 ++ al) w) (A := A) (H0 := s.heap) (ci := x) (fs := dfl x) (C := ocl x) (T := kT x) (N := nf x) (Ts := TBg) hx hb hts (uws_in x hx12) (kY x) (kY_ok x hx12) hown (hwd hlk rfl) (hts _ (mem_good (qs_in _ (inst_in x hx12)) rfl)) (hts _ (mem_good (qs_in _ (init_in x hx12)) rfl)) hK hP hD hS hA (vw_at x hx12) (fun j hj => dfl_ok x hx12 j hj) (by rw [hRC]; exact g3) (by rw [hRS]; exact g4) hdg (fun q H1 hP1 hD1 hS1 => ?_)
        have e1 : rws cy (al0 ++ al) w ++ [(q, .inr (x, dfl x))] = rws cy (al0 ++ (al ++ [q])) (w ++ ([(x, nf x, dfl x, fun _ => 0)] : Wl)) := by
          rw [← List.append_assoc, rws_app hl a1]
          congr 1
          show [(q, _)] = [(q, rent cy _ (x, nf x, dfl x, fun _ => 0))]
          rw [rent_obj (en := (x, nf x, dfl x, fun _ => 0)) hx12]
          show _ = [(q, Sum.inr (x, (dfl x).map (rtr _)))]
          rw [dfl_rtr]
        rw [e1] at hP1 hD1
        have := ih ls (.ref (4 + w.length) :: st) _ (cu + 1) (su + nf x) (al ++ [q]) H1 locs lsA (pc + 3) hsx hnx (by rw [← List.append_assoc]; exact hL.of_app a2) ⟨hP1, hD1, by simp at hl ⊢; omega⟩ hS1 g3 g4 h
        rw [List.map_cons, rtr_ref, ← List.append_assoc, getD_end hl, map_rtr a3] at this
        exact this
      · exact (nsm h).elim
    case newarray t =>
      obtain ⟨h1, h2⟩ := an hI
      have hl1 := beqN h1; subst hl1
      cases st with
      | nil => exact (nsm h).elim
      | cons v r =>
      cases v with
      | int n =>
        replace h : (match aok w ls r && (Nat.ble 12 x && (Nat.ble x 15 && (Nat.ble (cu + 1) C && (Nat.ble (su + ix n) S && (Nat.ble (ix n) 10000 && decide (¬ n < 0)))))) with
          | true => crun own cal C S tl ls (.ref (4 + w.length) :: r) (w ++ ([(x, ix n, [], fun _ => 0)] : Wl)) (cu + 1) (su + ix n)
          | false => none) = some w' := h
        split at h
        · rename_i g
          obtain ⟨g1, g⟩ := an g
          obtain ⟨g2, g⟩ := an g
          obtain ⟨g3, g⟩ := an g
          obtain ⟨g4, g⟩ := an g
          obtain ⟨g5, g⟩ := an g
          obtain ⟨g6, g7⟩ := an g
          have g4 := Nat.le_of_ble_eq_true g4
          have g5 := Nat.le_of_ble_eq_true g5
          have g6 := Nat.le_of_ble_eq_true g6
          have g7 := of_decide_eq_true g7
          obtain ⟨a1, a2, a3⟩ := all_iok (l2 := []) hl g1
          have fin : ∀ (q : Nat) (H1 : Heap) (en : va_E), en = rent cy (al0 ++ (al ++ [q])) (x, ix n, [], fun _ => 0) → va_P D vwCl (rws cy (al0 ++ al) w ++ [(q, en)]) H1 → va_D A (rws cy (al0 ++ al) w ++ [(q, en)]) → va_S A s.heap H1 locs →
              W p l e R s m args below meth c H1 locs (cu + 1) (su + ix n) Q (F0 m (pc + 2) lsA (.ref q :: r.map (rtr (al0 ++ al)))) := by
            intro q H1 en he hP1 hD1 hS1
            have e1 : rws cy (al0 ++ al) w ++ [(q, en)] = rws cy (al0 ++ (al ++ [q])) (w ++ ([(x, ix n, [], fun _ => 0)] : Wl)) := by
              rw [he, ← List.append_assoc, rws_app hl a1]
              rfl
            rw [e1] at hP1 hD1
            have := ih ls (.ref (4 + w.length) :: r) _ (cu + 1) (su + ix n) (al ++ [q]) H1 locs lsA (pc + 2) hsx hnx (by rw [← List.append_assoc]; exact hL.of_app a2) ⟨hP1, hD1, by simp at hl ⊢; omega⟩ hS1 g4 g5 h
            rw [List.map_cons, rtr_ref, ← List.append_assoc, getD_end hl, map_rtr a3] at this
            exact this
          have hbt : ∀ ty : FieldType, componentBytes ty ≤ 8 → ix n * componentBytes ty ≤ 536870912 := fun ty hty => by
            have := Nat.mul_le_mul g6 hty
            omega
          cases t with
          | byte =>
            have hx0 := beqN h2
            subst hx0
            refine va_newa (atype := .byte) (a0 := (ix n, .inl (fun _ => 0))) hx hb (hts _ (mem_good (qs_in _ (arr_in 0 (by decide))) rfl)) rfl hK hP hD hS hA (fun _ => rfl) g7 rfl (hbt _ (by decide)) (by rw [hRC]; exact g4) (by rw [hRS]; exact g5) hdg (fun q cA H1 hK1 hP1 hD1 hS1 => ?_)
            have ec := ty_eq hK1 (k := 0) rfl (fun C h => by cases h)
            subst ec
            exact fin q H1 _ rfl hP1 hD1 hS1
          | char =>
            have hx0 := beqN h2
            subst hx0
            refine va_newa (atype := .char) (a0 := (ix n, .inl (fun _ => 0))) hx hb (hts _ (mem_good (qs_in _ (arr_in 1 (by decide))) rfl)) rfl hK hP hD hS hA (fun _ => rfl) g7 rfl (hbt _ (by decide)) (by rw [hRC]; exact g4) (by rw [hRS]; exact g5) hdg (fun q cA H1 hK1 hP1 hD1 hS1 => ?_)
            have ec := ty_eq hK1 (k := 1) rfl (fun C h => by cases h)
            subst ec
            exact fin q H1 _ rfl hP1 hD1 hS1
          | int =>
            have hx0 := beqN h2
            subst hx0
            refine va_newa (atype := .int) (a0 := (ix n, .inl (fun _ => 0))) hx hb (hts _ (mem_good (qs_in _ (arr_in 2 (by decide))) rfl)) rfl hK hP hD hS hA (fun _ => rfl) g7 rfl (hbt _ (by decide)) (by rw [hRC]; exact g4) (by rw [hRS]; exact g5) hdg (fun q cA H1 hK1 hP1 hD1 hS1 => ?_)
            have ec := ty_eq hK1 (k := 2) rfl (fun C h => by cases h)
            subst ec
            exact fin q H1 _ rfl hP1 hD1 hS1
          | long =>
            have hx0 := beqN h2
            subst hx0
            refine va_newa (atype := .long) (a0 := (ix n, .inr (.inl (fun _ => 0)))) hx hb (hts _ (mem_good (qs_in _ (arr_in 3 (by decide))) rfl)) rfl hK hP hD hS hA (fun _ => rfl) g7 rfl (hbt _ (by decide)) (by rw [hRC]; exact g4) (by rw [hRS]; exact g5) hdg (fun q cA H1 hK1 hP1 hD1 hS1 => ?_)
            have ec := ty_eq hK1 (k := 3) rfl (fun C h => by cases h)
            subst ec
            exact fin q H1 _ rfl hP1 hD1 hS1
          | _ => exact absurd (show false = true from h2) (by decide)
        · exact (nsm h).elim
      | _ => exact (nsm h).elim
    case putfield ii =>
      obtain ⟨h1, h4⟩ := an hI
      obtain ⟨h1, h3⟩ := an h1
      obtain ⟨h1, h2⟩ := an h1
      have hl1 := beqN h1; subst hl1
      have hx12 := bltN h2
      have hyn := bltN h3
      have hlk : (Cond.fieldLink (ocl own) ii (kT x y).1 (kT x y).2.1 (kT x y).2.2.1).before args s = true := by
        have h5 := hwd h4 rfl
        have n1 := nf_lt x hx12
        have e1 : (x * 100 + y) / 100 = x := by omega
        have e2 : (x * 100 + y) % 100 = y := by omega
        have h6 : (Cond.fieldLink (ocl own) ii (fnm ((x * 100 + y) / 100) ((x * 100 + y) % 100)).1 (fnm ((x * 100 + y) / 100) ((x * 100 + y) % 100)).2.1 (fnm ((x * 100 + y) / 100) ((x * 100 + y) % 100)).2.2.1).before args s = true := h5
        rw [e1, e2, fnm_kT] at h6
        exact h6
      have hfo := fk_ok x hx12 y hyn
      cases st with
      | nil => exact (nsm h).elim
      | cons v r0 =>
      cases r0 with
      | nil => exact (nsm h).elim
      | cons u r =>
      cases u with
      | ref a =>
        replace h : (match w[a - 4]? with
          | some en => (match Nat.ble 4 a && (Nat.beq en.1 x && (Nat.beq own x && (Nat.blt x 12 && (Nat.blt y (nf x) && (Nat.beq en.2.2.1.length (nf x) && vok x y v))))) with
            | true => crun own cal C S tl ls r (w.set (a - 4) (en.1, en.2.1, en.2.2.1.set y v, en.2.2.2)) cu su
            | false => none)
          | none => none) = some w' := h
        split at h
        · rename_i en hen
          split at h
          · rename_i g
            obtain ⟨g1, g⟩ := an g
            obtain ⟨g2, g⟩ := an g
            obtain ⟨g3, g⟩ := an g
            obtain ⟨-, g⟩ := an g
            obtain ⟨-, g⟩ := an g
            obtain ⟨g6, g7⟩ := an g
            have g2 := beqN g2
            have g3 := beqN g3
            have g6 := beqN g6
            have hi : a - 4 < w.length := (List.getElem?_eq_some_iff.mp hen).1
            have hat := rws_at (cy := cy) hl hen
            rw [rent_obj (by omega), g2] at hat
            have e1 : (rws cy (al0 ++ al) w).set (a - 4) ((al0 ++ al).getD (a - 4) 0, .inr (x, (en.2.2.1.map (rtr (al0 ++ al))).set y (rtr (al0 ++ al) v))) = rws cy (al0 ++ al) (w.set (a - 4) (en.1, en.2.1, en.2.2.1.set y v, en.2.2.2)) := by
              rw [← rws_set hl hi, rent_obj (en := (en.1, en.2.1, en.2.2.1.set y v, en.2.2.2)) (by show en.1 < 12; omega), List.map_set]
              rw [g2]
            have hn : narrow (kY x y) (rtr (al0 ++ al) v) = rtr (al0 ++ al) v ∧ fits (kY x y) (rtr (al0 ++ al) v) = true := vok_fit hx12 hyn g7
            have fin : ∀ (H1 : Heap) (locs1 : List Loc), va_P D vwCl ((rws cy (al0 ++ al) w).set (a - 4) ((al0 ++ al).getD (a - 4) 0, .inr (x, (en.2.2.1.map (rtr (al0 ++ al))).set y (rtr (al0 ++ al) v)))) H1 → va_D A ((rws cy (al0 ++ al) w).set (a - 4) ((al0 ++ al).getD (a - 4) 0, .inr (x, (en.2.2.1.map (rtr (al0 ++ al))).set y (rtr (al0 ++ al) v)))) → va_S A s.heap H1 locs1 →
                W p l e R s m args below meth c H1 locs1 cu su Q (F0 m (pc + 3) lsA (r.map (rtr (al0 ++ al)))) := by
              intro H1 locs1 hP1 hD1 hS1
              rw [e1] at hP1 hD1
              exact ih ls r _ cu su al H1 locs1 lsA (pc + 3) hsx hnx hL ⟨hP1, hD1, by simpa using hl⟩ hS1 hcu hsu h
            cases hf : (kT x y).2.2.2 with
            | false => exact va_put (D := D) (cl := vwCl) (tys := tyA cy) (ws := rws cy (al0 ++ al) w) (H0 := s.heap) (C := ocl x) (T := kT x) (N := nf x) (Ts := TBg) hx hb hts (uws_in x hx12) (kY x) (kY_ok x hx12) (kN_ok x hx12) hown hK hP hD hS (a - 4) hat (vw_at x hx12) y hyn hlk (fun _ h9 => h9) hf (kY_ok x hx12 y hyn) hn.1 hn.2 (by rw [List.length_map, g6]; exact hyn) hdg fin
            | true => exact va_putF (D := D) (cl := vwCl) (tys := tyA cy) (ws := rws cy (al0 ++ al) w) (H0 := s.heap) (C := ocl x) (T := kT x) (N := nf x) (Ts := TBg) hx hb hts (uws_in x hx12) (kY x) (kY_ok x hx12) (kN_ok x hx12) hown hK hP hD hS (a - 4) hat (vw_at x hx12) y hyn hlk (fun _ h9 => h9) hf hin (by rw [kd_own x hx12 y hyn, g3]) (kY_ok x hx12 y hyn) hn.1 hn.2 (by rw [List.length_map, g6]; exact hyn) hdg fin
          · exact (nsm h).elim
        · exact (nsm h).elim
      | _ => cases v <;> exact (nsm h).elim
    case getfield ii =>
      obtain ⟨h1, h4⟩ := an hI
      obtain ⟨h1, h3⟩ := an h1
      obtain ⟨h1, h2⟩ := an h1
      have hl1 := beqN h1; subst hl1
      have hx12 := bltN h2
      have hyn := bltN h3
      have hlk : (Cond.fieldLink (ocl own) ii (kT x y).1 (kT x y).2.1 (kT x y).2.2.1).before args s = true := by
        have h5 := hwd h4 rfl
        have n1 := nf_lt x hx12
        have e1 : (x * 100 + y) / 100 = x := by omega
        have e2 : (x * 100 + y) % 100 = y := by omega
        have h6 : (Cond.fieldLink (ocl own) ii (fnm ((x * 100 + y) / 100) ((x * 100 + y) % 100)).1 (fnm ((x * 100 + y) / 100) ((x * 100 + y) % 100)).2.1 (fnm ((x * 100 + y) / 100) ((x * 100 + y) % 100)).2.2.1).before args s = true := h5
        rw [e1, e2, fnm_kT] at h6
        exact h6
      cases st with
      | nil => exact (nsm h).elim
      | cons u r =>
      cases u with
      | ref a =>
        replace h : (match w[a - 4]? with
          | some en => (match Nat.ble 4 a && (Nat.beq en.1 x && (Nat.blt x 12 && Nat.blt y (nf x))) with
            | true => (match en.2.2.1[y]? with
              | some v => crun own cal C S tl ls (v :: r) w cu su
              | none => none)
            | false => none)
          | none => none) = some w' := h
        split at h
        · rename_i en hen
          split at h
          · rename_i g
            split at h
            · rename_i v hv
              have g2 := beqN (an (an g).2).1
              have hat := rws_at (cy := cy) hl hen
              rw [rent_obj (by omega), g2] at hat
              exact va_get (D := D) (cl := vwCl) (tys := tyA cy) (ws := rws cy (al0 ++ al) w) (C := ocl x) (T := kT x) (N := nf x) (Ts := TBg) hx hb hts (uws_in x hx12) hown hK hP (a - 4) hat (vw_at x hx12) y hyn hlk (fun _ h9 => h9) (by rw [List.getElem?_map, hv]; rfl) hdg (ih ls (v :: r) w cu su al H locs lsA (pc + 3) hsx hnx hL ⟨hP, hD, hl⟩ hS hcu hsu h)
            · exact (nsm h).elim
          · exact (nsm h).elim
        · exact (nsm h).elim
      | _ => exact (nsm h).elim
    case iastore =>
      have hl1 := beqN hI; subst hl1
      cases st with
      | nil => exact (nsm h).elim
      | cons u1 r1 =>
      cases r1 with
      | nil => cases u1 <;> exact (nsm h).elim
      | cons u2 r2 =>
      cases r2 with
      | nil => cases u1 <;> first | exact (nsm h).elim | (cases u2 <;> exact (nsm h).elim)
      | cons u3 r =>
      cases u1 with
      | int v =>
        cases u2 with
        | int i =>
          cases u3 with
          | ref a =>
            replace h : (match w[a - 4]? with
              | some en => (match Nat.ble 4 a && (Nat.beq en.1 14 && decide (¬ (i < 0 ∨ en.2.1 ≤ ix i))) with
                | true => crun own cal C S tl ls r (w.set (a - 4) (en.1, en.2.1, en.2.2.1, upd en.2.2.2 (ix i) v)) cu su
                | false => none)
              | none => none) = some w' := h
            split at h
            · rename_i en hen
              split at h
              · rename_i g
                have g2 := beqN (an (an g).2).1
                have g3 := of_decide_eq_true (an (an g).2).2
                have hi : a - 4 < w.length := (List.getElem?_eq_some_iff.mp hen).1
                have hat := rws_at (cy := cy) hl hen
                rw [rent_int g2] at hat
                refine va_iast (tys := tyA cy) (H0 := s.heap) hx hb hK hP hD hS (a - 4) 2 hat rfl g3 hdg (fun H1 locs1 hP1 hD1 hS1 => ?_)
                have e1 : (rws cy (al0 ++ al) w).set (a - 4) ((al0 ++ al).getD (a - 4) 0, .inl (cy 14, en.2.1, .inl (upd en.2.2.2 (ix i) v))) = rws cy (al0 ++ al) (w.set (a - 4) (en.1, en.2.1, en.2.2.1, upd en.2.2.2 (ix i) v)) := by
                  rw [← rws_set hl hi, rent_int (en := (en.1, en.2.1, en.2.2.1, upd en.2.2.2 (ix i) v)) g2]
                rw [e1] at hP1 hD1
                exact ih ls r _ cu su al H1 locs1 lsA (pc + 1) hsx hnx hL ⟨hP1, hD1, by simpa using hl⟩ hS1 hcu hsu h
              · exact (nsm h).elim
            · exact (nsm h).elim
          | _ => exact (nsm h).elim
        | _ => exact (nsm h).elim
      | _ => exact (nsm h).elim
    case invokespecial ii =>
      obtain ⟨h1, h2⟩ := an hI
      have hl1 := beqN h1; subst hl1
      cases st with
      | nil => exact (nsm h).elim
      | cons u r =>
      cases u with
      | ref a =>
        replace h : (match Nat.beq x 1 with
          | true => (match Nat.ble r.length 4 with
            | true => crun own cal C S tl ls r w cu su
            | false => none)
          | false => (match aok w ls (.ref a :: r) && (Nat.ble r.length 4 && (Nat.ble (cu + (ccl x).1) C && (Nat.ble (su + (ccl x).2) S && (decide (z = 1) && Nat.ble 1 (ccl x).1)))) with
            | true => (match cal x [.ref a] w with
              | some w' => crun own cal C S tl ls r w' (cu + (ccl x).1) (su + (ccl x).2)
              | none => none)
            | false => none)) = some w' := h
        split at h
        · rename_i e1
          have e1 := beqN e1
          subst e1
          split at h
          · rename_i e4
            have e4 := Nat.le_of_ble_eq_true e4
            have hlk : (Cond.methodLink (ocl own) ii (mY 1)).before args s = true := by
              rcases orr h2 with q | q
              · exact absurd q (by decide)
              · have q := (an q).2
                cases hz : decide (z = 0) with
                | true => rw [hz] at q; exact hwd (w := (1, own, ii, 1)) q rfl
                | false =>
                  rw [hz] at q
                  exact absurd (List.mem_of_getElem? (of_decide_eq_true (show wdi (pl1 tb) (2, own, ii, 1) = true from q))) (by
                    have : ∀ q ∈ QS, (match q with | (2, _, _, x) => !(Nat.beq x 1) | _ => true) = true := by decide +kernel
                    intro hq
                    exact absurd (show false = true from this _ hq) (by decide))
            have hcat : (((r.map (rtr (al0 ++ al))).map fun v => v.category).sum) ≤ 8 := cat_le (by simpa using e4)
            refine W.objInit hx hb hown (idx := ii) hlk (hts _ (mem_good (qs_in (4, 1, 0, 0) (by decide +kernel)) rfl)) (hts _ (mem_good (qs_in (0, 1, 0, 0) (by decide +kernel)) rfl)) rfl (by rw [hml]; exact hL.1.1) rfl hdg (by omega) ?_ ?_
            · show 2 * 0 + _ + 12 ≤ R.locals
              omega
            · exact ih ls r w cu su al H locs lsA (pc + 3) hsx hnx hL ⟨hP, hD, hl⟩ hS hcu hsu h
          · exact (nsm h).elim
        · rename_i e1
          split at h
          · rename_i g
            obtain ⟨g1, g⟩ := an g
            obtain ⟨g2, g⟩ := an g
            obtain ⟨g3, g⟩ := an g
            obtain ⟨g4, g⟩ := an g
            obtain ⟨g5, g6⟩ := an g
            have g6 := Nat.le_of_ble_eq_true g6
            have g2 := Nat.le_of_ble_eq_true g2
            have g3 := Nat.le_of_ble_eq_true g3
            have g4 := Nat.le_of_ble_eq_true g4
            have g5 := of_decide_eq_true g5
            subst g5
            obtain ⟨a1, a2, a3⟩ := all_iok (l2 := []) hl g1
            split at h
            · rename_i w2 hw2
              have hx3 : x < 340 := by
                rcases orr h2 with q | q
                · have := beqN q
                  subst this
                  exact absurd g6 (by decide)
                · exact bltN (an q).1
              have hlk : wdi (pl1 tb) (2, own, ii, x) = true := by
                rcases orr h2 with q | q
                · have := beqN q
                  subst this
                  exact absurd g6 (by decide)
                · exact (an q).2
              have hx0 : x ≠ 0 := by
                intro e0
                subst e0
                exact absurd (List.mem_of_getElem? (of_decide_eq_true hlk)) (by
                  have : ∀ q ∈ QS, (match q with | (2, _, _, x) => !(Nat.beq x 0) | _ => true) = true := by decide +kernel
                  intro hq
                  exact absurd (show false = true from this _ hq) (by decide))
              have k := (con_ok x hx3).resolve_right hx0
              rcases orr k with k | k
              · have := Nat.le_of_ble_eq_true k
                omega
              obtain ⟨k1, k⟩ := an k
              obtain ⟨k2, k⟩ := an k
              obtain ⟨k3, k⟩ := an k
              obtain ⟨k4, k⟩ := an k
              obtain ⟨k5, k⟩ := an k
              obtain ⟨k6, k⟩ := an k
              obtain ⟨k7, k8⟩ := an k
              have k2 := of_decide_eq_true k2
              have k3 := of_decide_eq_true k3
              have k4 := beqN k4
              have k5 := bltN k5
              have k6 := Nat.le_of_ble_eq_true k6
              obtain ⟨hW0, -⟩ := okW_of hAll hx3 (by omega) (by simpa using k7) (by simpa using k8)
              obtain ⟨w1, w2', w3, w4, w5, w6⟩ := okW_split hW0
              have e99 : Nat.beq (mkd x) 99 = false := by
                cases hq : Nat.beq (mkd x) 99 with
                | false => rfl
                | true => have := beqN hq; omega
              rw [e99] at w6
              have w6 : (wdi (mpl x).2.2.1 (4, x, 0, 0) && decide ((vwCl[mkd x]?).map (fun q => q.1) = some (mY x).cls) && (decide ((mY x).name = "<init>") || wdi (mpl x).2.2.2 (5, x, 0, 0))) = true := w6
              obtain ⟨w6, -⟩ := an w6
              obtain ⟨w6, -⟩ := an w6
              have hMx := hM x (al0 ++ al) [.ref a] w w2 hx3 k1 k2 k3 hw2
              have hmx := okB_mL k1
              have hcode : Cond.code (mY x) (mby x) (mmL x) (mret x) ∈ lw_tbl := wd_of w1
              have hini : (Cond.initialized (mY x).cls).before args s = true := by rw [← w3]; exact hwd w2' rfl
              have hdd : (mY x).cls ≠ "java/lang/invoke/MethodHandle" ∧ (mY x).cls ≠ "java/lang/invoke/VarHandle" ∧ (parseMethodDescriptor (mY x).desc).map (fun d => d.parameters.length) = some 0 := ⟨w4.1, w4.2, by rw [w5, k4]⟩
              have hRR : (mrc x d).frames + 1 ≤ R.frames ∧ 8 + (mmL x + 11) + (mrc x d).locals ≤ R.locals := ⟨hroom.1, by show 8 + (mmL x + 11) + 60 * d ≤ R.locals; have := hroom.2; omega⟩
              have cw := va_cnB (R := R) (s := s) (args := args) (own := ocl own) (host := "NamedToWed") (index := ii) (y := mY x) (bytes := mby x) (maxL := mmL x) (mc := (ccl x).1) (ms := (ccl x).2) (ret := none) (Ts := TBg) (ws := mws x) (ws' := TBg) (rm := mrc x d) 0 hts (good_ws hcode) (by unfold mws; rw [k3]) rfl rfl (hN _ (wd_of hlk) rfl) hini hdd hRR
              have hcat : (((r.map (rtr (al0 ++ al))).map fun v => v.category).sum) ≤ 8 := cat_le (by simpa using g2)
              obtain ⟨a3a, a3b⟩ := an (show (iok (al0 ++ al).length (.ref a) && r.all (iok (al0 ++ al).length)) = true from a3)
              refine va_callv (va_runIN (As := []) (b := (al0 ++ al).getD (a - 4) 0) (rest := r.map (rtr (al0 ++ al))) ⟨hx, hb, hml, hown, hts⟩ hMx ⟨cw, k2, hwd w6 rfl⟩ ⟨blindC, fun U hU hW => ⟨rfl, va_K.moved hW.alike hK, by rw [hU]; exact ⟨hP, hD, hl⟩, hN.warm hW, fun q hq => hA q (by rw [hU] at hq; exact Nat.le_trans hS.1 hq)⟩⟩ rfl rfl hL.1.1 rfl (lv_room hcat) hdg ⟨by rw [hRC]; exact g3, by rw [hRS]; exact g4⟩) hS (fun _ _ h => h) (fun _ h => h) (fun l2 t H1 locs1 ht hvm hw hB hz hk hS1 => ?_)
              have hC1 : CI D cy A ((al0 ++ al) ++ l2) w2 H1 := by rw [← ht]; exact hB.2
              have := ih ls r w2 (cu + (ccl x).1) (su + (ccl x).2) (al ++ l2) H1 locs1 lsA (pc + 3) hsx hnx (by rw [← List.append_assoc]; exact hL.of_app a2) (by rw [← List.append_assoc]; exact hC1) hS1 g3 g4 h
              rw [← List.append_assoc, map_rtr a3b] at this
              exact this
            · exact (nsm h).elim
          · exact (nsm h).elim
      | _ => exact (nsm h).elim
    case return_ =>
      have hl1 := beqN hI; subst hl1
      cases st with
      | nil =>
        have e1 : w = w' := Option.some.inj h
        subst e1
        exact hfin al H locs lsA pc cu su hcu hsu hdg ⟨hP, hD, hl⟩ hS
      | cons v r => exact (nsm h).elim
    all_goals exact (nsm h).elim
end CSim
