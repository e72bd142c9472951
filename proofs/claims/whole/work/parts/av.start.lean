/-! THE CLAIM OUT OF ONE WALK OF THE LAW'S BODY. Your part is whole_start (and what it stands on); all else here is the same for every law, but numbers. -/
def R_law : String := "NamedToWedLaw"
def lw_P (b : Addr) (xs : List Int32) (args : Array Value) (s : State) : Prop := args = #[.ref b] ∧ s.IntsAt b xs ∧ xs.length ≤ 3072 ∧ (Jvm.Cond.and given_1 narrow_1).before args s = true
def lw_Q (_ : Array Value) (s : State) (o : Outcome) (t : State) : Prop := o = .returned (some (.int 1)) ∧ Framed s o t [] 600000 7302250
def lw_Z (below : List Frame) (a : Array Value) (s : State) : State → Prop := fun t => ∃ o, t.status = .running ∧ Ended t below o ∧ lw_Q a s o t
/-- the law's own end, with 1 on the stack, nothing written that was there before, its room as the claim has it -/
theorem lw_ret {p : Program} {l : Launch} {e : Env} {s : State} {m : MethodId} {below : List Frame} {meth : Method} {c : Code} {b : Nat} (hx : p.tables.exec = Jvm.exec) (hb : c.code = code) (hr : meth.sig.returnType = ret) (hlocks : meth.locks = false) {pc : Nat} {H : Heap} {ls : Array Slot} (hdg : decode code pc = .ok (.ireturn, 1)) : W p l e room_1 s m #[Value.ref b] below meth c H [] 600000 7302250 (lw_Z below #[Value.ref b] s) (F0 m pc ls [.int 1]) := by
  intro T hT X
  obtain ⟨fs, hret, hrun, hended, hW, hframe⟩ := X.leave (v := some (.int 1)) (hlocks := hlocks) (fun h => by rw [hr] at h; cases h)
  have hmeth' : T.vm.method? m = some meth := X.method'
  refine ⟨T.setFrames fs, ?_, .returned (some (.int 1)), hrun, hended, rfl, ⟨_, rfl⟩, hW, hframe⟩
  jvm_step X.here [X.here.top, hx, hb, hdg, hmeth', hr, ret, narrow_b1]
  (try refine ⟨rfl, ?_⟩); (try refine ⟨rfl, ?_⟩)
  first | (intro acts; rw [hret _ acts rfl rfl rfl]) | rw [hret _ _ rfl rfl rfl]
  exact Steps.refl _
/-- what holds at the law's entry: the machine, the code, the tables' words (any of lw_tbl by 'hts w (by decide +kernel)'), the script of L ints xs at the cell b, what the Statement gives of the start (any of its parts by flat_of_before) -/
def lw_At (p : Program) (s : State) (m : MethodId) (meth : Method) (c : Code) (b L : Nat) (xs : Nat → Int32) : Prop :=
  p.tables.exec = Jvm.exec ∧ c.code = code ∧ meth.sig.returnType = ret ∧ c.maxLocals = 4 ∧ s.vm.findClass R_law = some m.cls ∧ (∀ w ∈ lw_tbl, w.before #[Value.ref b] s = true) ∧ va_X b L xs s s.heap ∧ b < s.heap.size ∧ meth.locks = false ∧ (Jvm.Cond.and given_1 narrow_1).before #[Value.ref b] s = true
set_option maxHeartbeats 4000000 in
theorem whole_start {p : Program} {e : Env} {s : State} {m : MethodId} {below : List Frame} {meth : Method} {c : Code} (l : Launch) (hflags : l.flags = flags0) {b L : Nat} {xs : Nat → Int32} (hL : L ≤ 3072) (C0 : lw_At p s m meth c b L xs) : W p l e room_1 s m #[Value.ref b] below meth c s.heap [] 0 0 (lw_Z below #[Value.ref b] s) (entryFrame m ([Value.ref b] : List Value).toArray 4) := by
  obtain ⟨hx, hb, hr, hml, hown, hts, hX, hbl, hlocks, hgv⟩ := C0
  obtain ⟨D, cy, hK⟩ := start_K hts
  obtain ⟨t1, hT1, hZ1⟩ := stat_1 hgv hts
  obtain ⟨t2, hT2, hZ2⟩ := stat_2 hgv hts
  obtain ⟨t3, hT3, hZ3⟩ := stat_3 hgv hts
  have hA : ∀ q, s.heap.size ≤ q → (fun q => s.heap.size ≤ q) q := fun _ h => h
  have htg : ∀ w ∈ TBg, w.before #[Value.ref b] s = true := fun w hw => hts w (List.mem_filter.mp hw).1
  have hown : s.vm.findClass (ocl 13) = some m.cls := hown
  have hN : NWs s := by
    intro w hw hn
    refine va_Nw.of ?_ (hts w hw)
    cases w <;> first | rfl | exact absurd (show false = true from hn) (by decide)
  have hT0 : va_T .int b L (fun j => .int (xs j)) (fun q => s.heap.size ≤ q) s s.heap := by
    obtain ⟨scr, h1, h2, h3, h4, h5⟩ := hX
    exact ⟨scr, h1, h2, h3, by omega, by rw [h4], h5, Nat.not_le.mpr hbl⟩
  rw [lg_entry_eq]
  have hl := lv_entry ([.ref b]) (n := 4) (Nat.le_of_ble_eq_true rfl)
  generalize (lg_sl ([.ref b]) ++ List.replicate (4 - (lg_sl ([.ref b])).length) Slot.unset).toArray = ls at hl ⊢
  have hl : lv_has ls 4 [(0, .ref b)] := hl
  have d0 : decode code 0 = .ok (.new 7, 3) := by decide +kernel
  have d3 : decode code 3 = .ok (.dup, 1) := by decide +kernel
  have d4 : decode code 4 = .ok (.invokespecial 9, 3) := by decide +kernel
  have d7 : decode code 7 = .ok (.astore_n 1, 1) := by decide +kernel
  have d8 : decode code 8 = .ok (.new 10, 3) := by decide +kernel
  have d11 : decode code 11 = .ok (.dup, 1) := by decide +kernel
  have d12 : decode code 12 = .ok (.invokespecial 12, 3) := by decide +kernel
  have d15 : decode code 15 = .ok (.astore_n 2, 1) := by decide +kernel
  have d16 : decode code 16 = .ok (.iconst 0, 1) := by decide +kernel
  have d17 : decode code 17 = .ok (.istore_n 3, 1) := by decide +kernel
  have hcon : ∀ k, k < 340 → okD (mby k) (mcd k) = true := okD_all
  -- the class
  refine va_new (D := D) (cl := vwCl) (tys := tyA cy) (ws := []) (A := fun q => s.heap.size ≤ q) (H0 := s.heap) (ci := 10) (fs := dfl 10) (C := ocl 10) (T := kT 10) (N := nf 10) (Ts := TBg) hx hb htg (uws_in 10 (by decide)) (kY 10) (kY_ok 10 (by decide)) hown (hts _ (qs_in (9, 13, 7, 10) (by decide +kernel))) (hts _ (qs_in _ (inst_in 10 (by decide)))) (hts _ (qs_in _ (init_in 10 (by decide)))) hK (fun k q h => by simp at h) ⟨fun i j p q h => by simp at h, fun k q h => by simp at h⟩ va_S.rf hA (vw_at 10 (by decide)) (fun j hj => dfl_ok 10 (by decide) j hj) (Nat.le_of_ble_eq_true rfl) (Nat.le_of_ble_eq_true rfl) d0 (fun q1 H1 hP hD hS => ?_)
  refine lv_dup hx hb d3 rfl ?_
  have e0 : ([] : va_W) ++ [(q1, .inr (10, dfl 10))] = rws cy [q1] w0 := by
    show [(q1, _)] = [(q1, rent cy [q1] (10, nf 10, dfl 10, fun _ => 0))]
    rw [rent_obj (en := (10, nf 10, dfl 10, fun _ => 0)) (by decide)]
    show _ = [(q1, Sum.inr (10, (dfl 10).map (rtr [q1])))]
    rw [dfl_rtr]
  rw [e0] at hP hD
  have hM0 := simC l D cy (fun q => s.heap.size ≤ q) okA_all okD_all 3 0 [q1] [.ref 4] w0 w1 (by decide) (by decide +kernel) rfl rfl w1_ev
  have cw0 := cwI (R := room_1) (s := s) (args := #[Value.ref b]) (own := ocl 13) (index := 9) (y := mY 0) (bytes := mby 0) (maxL := mmL 0) (mc := (ccl 0).1) (ms := (ccl 0).2) (Ts := TBg) (ws := mws 0) (ws' := TBg) (rm := mrc 0 3) 0 htg (good_ws (qs_in (0, 0, 0, 0) (by decide +kernel))) rfl rfl rfl (hts _ (qs_in _ (init_in 10 (by decide)))) (hts _ (qs_in (1, 13, 9, 0) (by decide +kernel))) (hts _ (qs_in (4, 0, 0, 0) (by decide +kernel))) rfl (by decide +kernel) ⟨Nat.le_of_ble_eq_true rfl, Nat.le_of_ble_eq_true rfl⟩
  refine va_callv (va_runI (As := []) (b := q1) (rest := [.ref q1]) ⟨hx, hb, hml, hown, htg⟩ hM0 cw0 ⟨blindC, fun U hU hW => ⟨rfl, va_K.moved hW.alike hK, by rw [hU]; exact ⟨hP, hD, rfl⟩, hN.warm hW, fun q hq => by rw [hU] at hq; exact Nat.le_trans hS.1 hq⟩⟩ rfl rfl hl.1 rfl (lv_room (Nat.le_of_ble_eq_true rfl)) d4 ⟨Nat.le_of_ble_eq_true rfl, Nat.le_of_ble_eq_true rfl⟩) hS (fun _ _ h => h) (fun _ h => h) (fun l2 t H2 locs2 ht hvm hw hB hz hk hS2 => ?_)
  obtain ⟨hP2, hD2, hl2⟩ : CI D cy (fun q => s.heap.size ≤ q) ([q1] ++ l2) w1 H2 := by rw [← ht]; exact hB.2
  rw [w1_wok.2] at hl2
  refine lv_astore_n (lv' := [(1, .ref q1), (0, .ref b)]) hx hb d7 rfl hl (by decide) rfl (fun ls hl => ?_)
  -- the reference
  refine va_new (D := D) (cl := vwCl) (tys := tyA cy) (ws := rws cy ([q1] ++ l2) w1) (A := fun q => s.heap.size ≤ q) (H0 := s.heap) (ci := 11) (fs := dfl 11) (C := ocl 11) (T := kT 11) (N := nf 11) (Ts := TBg) hx hb htg (uws_in 11 (by decide)) (kY 11) (kY_ok 11 (by decide)) hown (hts _ (qs_in (9, 13, 10, 11) (by decide +kernel))) (hts _ (qs_in _ (inst_in 11 (by decide)))) (hts _ (qs_in _ (init_in 11 (by decide)))) hK hP2 hD2 hS2 hA (vw_at 11 (by decide)) (fun j hj => dfl_ok 11 (by decide) j hj) (Nat.le_of_ble_eq_true rfl) (Nat.le_of_ble_eq_true rfl) d8 (fun q2 H3 hP3 hD3 hS3 => ?_)
  refine lv_dup hx hb d11 rfl ?_
  have e1 : rws cy ([q1] ++ l2) w1 ++ [(q2, .inr (11, dfl 11))] = rws cy (([q1] ++ l2) ++ [q2]) w2 := by
    unfold w2
    rw [rws_app (by rw [hl2, w1_wok.2]) w1_wok.1]
    congr 1
  rw [e1] at hP3 hD3
  have hl3 : (([q1] ++ l2) ++ [q2]).length = w2.length := by
    unfold w2
    simp only [List.length_append, List.length_singleton] at hl2 ⊢
    rw [w1_wok.2]
    omega
  have hq2 : rtr (([q1] ++ l2) ++ [q2]) (.ref 102) = .ref q2 := by
    show Value.ref (((([q1] ++ l2) ++ [q2]).getD (4 + 98 - 4) 0)) = _
    rw [getD_end (by rw [hl2])]
  have hM1 := simC l D cy (fun q => s.heap.size ≤ q) okA_all okD_all 3 187 (([q1] ++ l2) ++ [q2]) [.ref 102] w2 w3 (by decide) (by decide +kernel) rfl rfl w3_ev
  have cw1 := cwI (R := room_1) (s := s) (args := #[Value.ref b]) (own := ocl 13) (index := 12) (y := mY 187) (bytes := mby 187) (maxL := mmL 187) (mc := (ccl 187).1) (ms := (ccl 187).2) (Ts := TBg) (ws := mws 187) (ws' := TBg) (rm := mrc 187 3) 0 htg (good_ws (qs_in (0, 187, 0, 0) (by decide +kernel))) rfl rfl rfl (hts _ (qs_in _ (init_in 11 (by decide)))) (hts _ (qs_in (1, 13, 12, 187) (by decide +kernel))) (hts _ (qs_in (4, 187, 0, 0) (by decide +kernel))) rfl (by decide +kernel) ⟨Nat.le_of_ble_eq_true rfl, Nat.le_of_ble_eq_true rfl⟩
  refine va_callv (va_runI (As := []) (b := q2) (rest := [.ref q2]) ⟨hx, hb, hml, hown, htg⟩ hM1 cw1 ⟨blindC, fun U hU hW => ⟨by rw [List.map_cons, hq2]; rfl, va_K.moved hW.alike hK, by rw [hU]; exact ⟨hP3, hD3, hl3⟩, hN.warm hW, fun q hq => by rw [hU] at hq; exact Nat.le_trans hS3.1 hq⟩⟩ rfl rfl hl.1 rfl (lv_room (Nat.le_of_ble_eq_true rfl)) d12 ⟨Nat.le_of_ble_eq_true rfl, Nat.le_of_ble_eq_true rfl⟩) hS3 (fun _ _ h => h) (fun _ h => h) (fun l4 t4 H4 locs4 ht4 hvm4 hw4 hB4 hz4 hk4 hS4 => ?_)
  obtain ⟨hP4, hD4, hl4⟩ : CI D cy (fun q => s.heap.size ≤ q) ((([q1] ++ l2) ++ [q2]) ++ l4) w3 H4 := by rw [← ht4]; exact hB4.2
  rw [w3_ok.2] at hl4
  refine lv_astore_n (lv' := [(2, .ref q2), (1, .ref q1), (0, .ref b)]) hx hb d15 rfl hl (by decide) rfl (fun ls hl => ?_)
  refine lv_iconst (v := 0) hx hb d16 (by decide) ?_
  refine lv_istore_n (lv' := [(3, .int 0), (2, .ref q2), (1, .ref q1), (0, .ref b)]) hx hb d17 rfl hl (by decide) rfl (fun ls hl => ?_)
  have ha1 : ((([q1] ++ l2) ++ [q2]) ++ l4).getD 0 0 = q1 := rfl
  have ha2 : ((([q1] ++ l2) ++ [q2]) ++ l4).getD 98 0 = q2 := by
    rw [getD_app (by simp only [List.length_append, List.length_singleton] at hl2 ⊢; omega)]
    exact getD_end (n := 98) hl2
  generalize (([q1] ++ l2) ++ [q2]) ++ l4 = al at hP4 hD4 hl4 ha1 ha2
  rw [start_ws (b := b) (t1 := t1) (t2 := t2) (t3 := t3) hl4] at hP4 hD4
  obtain ⟨σ', hev⟩ := law_pure L hL xs
  obtain ⟨n, hrun⟩ := evAt_some hev
  refine W.widen (k := 600000) (n := 7302250) (Nat.le_of_ble_eq_true rfl) (Nat.le_of_ble_eq_true rfl) ?_
  have Y : Hyp p l e room_1 s m #[Value.ref b] below meth c 600000 7302250 (lw_Z below #[Value.ref b] s) (L + 1, xs) D cy (adF b t1 t2 t3 al) (fun q => s.heap.size ≤ q) code 4 13 100 cd_L (ev 100) (some (.int 1), σ') := by
    refine ⟨⟨⟨hx, hb, hml, hown, htg⟩, hK, ⟨hT1, hT2, hT3, hZ1, hZ2, hZ3⟩, Or.inr hT0, hN, ⟨Nat.le_of_ble_eq_true rfl, Nat.le_of_ble_eq_true rfl⟩⟩, ⟨Nat.le_of_ble_eq_true rfl, Nat.le_of_ble_eq_true rfl⟩, simM l D cy _ _ okA_all okD_all 100, okL.1, okDL, okL.2, okA_all, ?_⟩
    intro it H locs lsA hit hRp hS
    have hdg := okD_at okDL hit
    refine ⟨fun e1 e2 e3 => ?_, fun v e1 e2 e3 e4 => ?_, fun v e1 e2 e3 => ?_⟩
    · cases e3
    · cases e3
      rw [e1, e2] at hdg
      exact va_forget (fun q hq => hS.2.2 q hq) (lw_ret hx hb hr hlocks hdg)
    · cases e3
  refine sim_go Y n (jmp cd_L 18) [.ref 0, .ref 4, .ref 102, .int 0] [] σ0 H4 locs4 ls 18 (jmp_suf cd_L 18) (jmp_hd cd_L 18) ⟨⟨hl.1, hl.2.1, fun q hq => absurd hq List.not_mem_nil⟩, rfl, fun i hi => ?_⟩ ⟨hP4, hD4⟩ hS4 hrun
  match i, hi with
  | 0, _ => exact lv_at hl 3 rfl
  | 1, _ =>
    have := lv_at hl 2 rfl
    rw [← ha1] at this
    exact this
  | 2, _ =>
    have := lv_at hl 1 rfl
    rw [← ha2] at this
    exact this
  | 3, _ => exact lv_at hl 0 rfl
  | n + 4, hi => exact absurd rfl hi
-- ===== YOUR PART ENDS =====
set_option maxHeartbeats 4000000 in
theorem lw_walk (l : Launch) (hflags : l.flags = flags0) (b : Addr) (xs : List Int32) : MetFree l x (headSpec (Jvm.Cond.code x code maxLocals ret :: tables_1) room_1) (lw_P b xs) (fun _ _ _ _ _ => True) lw_Q := by
  refine MetFree.of_bodyS (code := code) (maxLocals := maxLocals) (ret := ret) (by decide) ?_ ?_
  · intro args s m h hn
    obtain ⟨meth, c, h1, h2, h3, h4, h5, h6, -, -⟩ := Cond.code_spec hn (atoms_spec (ws := Jvm.Cond.code x code maxLocals ret :: tables_1) h _ List.mem_cons_self)
    exact ⟨meth, c, h1, h2, h3, h4, h5, h6⟩
  · intro p e s m args below meth c s₁ B hml0 hP _
    obtain ⟨rfl, hx, hbd, hgv⟩ := hP
    obtain ⟨scr, harrAt, hlist, hof, hsmall⟩ := hx
    obtain ⟨hcb, hkn, -, -⟩ := State.arrayAt?_spec harrAt
    have hown : s.vm.findClass R_law = some m.cls := findClass_of_methodNamed B.named
    have hts0 : ∀ c ∈ (Jvm.Cond.code x code maxLocals ret :: tables_1), c.before #[Value.ref b] s = true := atoms_spec (ws := Jvm.Cond.code x code maxLocals ret :: tables_1) B.pre
    have hts : ∀ w ∈ lw_tbl, w.before #[Value.ref b] s = true := k2_hts_sels lw_privs (fun w hw => hts0 w (List.mem_cons_of_mem _ hw)) lw_privs_ok
    have hml : c.maxLocals = 4 := B.maxLocals_eq (hts0 _ List.mem_cons_self)
    have X₀ : Stand p l e room_1 s m #[Value.ref b] below meth c s₁ [] 0 0 := Stand.of_body B
    have hh0 : s₁.heap = s.heap := by rw [B.state]; rfl
    have hsz : scr.slots.size = xs.length := by rw [← Array.length_toList, hlist, List.length_map]
    have hval : ∀ j : Nat, j < xs.length → scr.slots[j]? = some (.int (xs.getD j 0)) := fun j hj => by
      rw [← Array.getElem?_toList, hlist]
      simp [hj]
    have hbl : b < s.heap.size := (Array.getElem?_eq_some_iff.mp hcb).1
    have hX : va_X b xs.length (fun j => xs.getD j 0) s s.heap := ⟨scr, hcb, hof, hkn, hsz, hval⟩
    have K : W p l e room_1 s m #[Value.ref b] below meth c s₁.heap [] 0 0 (lw_Z below #[Value.ref b] s) (entryFrame m ([Value.ref b] : List Value).toArray 4) := by
      rw [hh0]
      exact whole_start l hflags hbd ⟨B.exec, B.bytes, B.returns, hml, hown, hts, hX, hbl, B.notSynchronized, hgv⟩
    obtain ⟨t, a1, o, b1, b2, b3⟩ := K s₁ rfl X₀
    exact ⟨t, o, a1, b1, b2, b3⟩
theorem lw_pre_spec {args : Array Value} {s : State} (h : (Jvm.Cond.and given_1 narrow_1).before args s = true) (hr : rest_1_c.before args s = true) : ∃ (b : Addr) (xs : List Int32), lw_P b xs args s := by
  have hs := flat_of_before _ h
  have hq := flat_of_before _ hr
  have hc : (Cond.count 1).before args s = true := hs _ (by decide +kernel)
  have harr : (Cond.arrayOf (.arg 0) .int).before args s = true := hs _ (by decide +kernel)
  have hle : (Cond.le (.length (.arg 0)) (.int 3072)).before args s = true := hs _ (by decide +kernel)
  have hlen : (Cond.isInt (.length (.arg 0))).before args s = true := hq _ (by decide +kernel)
  have hall : (Cond.all (.arg 0) (.isInt (.elem (.arg 0) (.index 0)))).before args s = true := hq _ (by decide +kernel)
  obtain ⟨b, xs, hb, hx⟩ := State.ints_of_pre rfl harr hlen hall
  have hsm : xs.length < 2 ^ 31 := hx.choose_spec.2.2.2
  have hev : (Term.length (.arg 0)).eval args s none [] s = some (.int xs.length.toInt32) := hx.length_eval hb
  have hv := Cond.le_ints hev (show (Term.int 3072).eval args s none [] s = some (.int 3072) from rfl)
  have hd : xs.length.toInt32 ≤ 3072 := by
    simpa [Cond.before, Cond.holds, hv] using hle
  have hN : xs.length ≤ 3072 := (Int32.ofNat_le_ofNat hsm (by decide)).mp (show Int32.ofNat xs.length ≤ Int32.ofNat 3072 from hd)
  exact ⟨b, xs, Cond.one_arg hc (show args[0]? = some (.ref b) from hb), hx, hN, h⟩
theorem lw_comes (l : Launch) (hflags : l.flags = flags0) : Comes l x (Jvm.Cond.code x code maxLocals ret :: tables_1) room_1 (fun tb e args s => Calls_1 tb e args s ∧ rest_1 tb e args s ∧ Pre_1 tb e args s)
    (fun _ _ args s o t => lw_Q args s o t) := by
  intro p e ha hc hk s m args below hf hfit hheap happ hpre
  obtain ⟨b, xs, hP⟩ := lw_pre_spec hpre.2.2 hpre.2.1
  obtain ⟨k, o, h1, h2, h3, hQ⟩ := lw_walk l hflags b xs p e ha hc hk s m args below hf ((Spec.applies_iff_loose hf).mp happ).1 hP trivial
  exact ⟨k, o, h1, h2, h3, hQ⟩
theorem lw_frame {s t : State} {o : Outcome} {args : Array Value} (h : Framed s o t [] 600000 7302250) :
    Framed s o t (fieldLocs frame_1_writes args s ++ arrayLocs frame_1_arrays args s ++ staticLocs frame_1_statics s) 600000 7302250 := h
theorem lw_limb (L : Cond) (hL : ∀ (args : Array Value) (s t : State), L.after args s (.returned (some (.int 1))) t = true) :
    ArmFor flags0 classFile x code maxLocals ret World_1 tables_1 room_1 Calls_1 rest_1 Pre_1
      (fun tb e a s o t => postC L tb e a s o t ∧ Framed s o t (fieldLocs frame_1_writes a s ++ arrayLocs frame_1_arrays a s ++ staticLocs frame_1_statics s) 600000 7302250) := by
  intro l hflags _ _ p e ha hc hk s m args below hf hfit hheap happ hpre
  obtain ⟨k, o, h1, h2, h3, rfl, hF⟩ := lw_comes l hflags p e ha hc hk s m args below hf hfit hheap happ hpre
  exact ⟨k, _, h1, h2, h3, hL args s _, lw_frame hF⟩
theorem i_vc : Claimed_1_1 ∧ Claimed_1_2 := ⟨lw_limb limb_1_1 (fun args s t => by simp [limb_1_1, Cond.after, Cond.holds, Cond.value]), lw_limb limb_1_2 (fun args s t => Cond.after_iff.mpr (by
  first | (rw [show limb_1_2 = Cond.eq .result (.int 1) from rfl, Cond.eq_ints (x := 1) (y := 1) rfl rfl]; simp; done) | (simp [limb_1_2, Cond.value, Term.eval]; done)))⟩
