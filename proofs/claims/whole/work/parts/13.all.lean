section Sim3
variable {p : Program} {l : Launch} {e : Env} {R : Room} {s : State} {m : MethodId} {args : Array Value} {below : List Frame} {meth : Method} {c : Code} {cells slots : Nat} {Q : State → Prop}
variable {sc : Scr} {D : va_G} {cy : Nat → ClassId} {ad : Nat → Nat} {A : Nat → Prop} {cc : ByteArray} {mL own d : Nat} {cd : Cod} {cal : Nat → List Value → Sg → Rs}
set_option maxHeartbeats 4000000 in
theorem st_all {q : Option Value × Sg} (Y : Hyp p l e R s m args below meth c cells slots Q sc D cy ad A cc mL own d cd cal q) (ins : Instr) : StK p l e R s m args below meth c cells slots Q sc D cy ad A cc mL own d cd cal q ins := by
  cases ins
  case iconst v0 => exact st_iconst Y v0
  case bipush v0 => exact st_bipush Y v0
  case sipush v0 => exact st_sipush Y v0
  case ldc v0 => exact st_ldc Y v0
  case ldc_w v0 => exact st_ldc_w Y v0
  case ldc2_w v0 => exact st_ldc2_w Y v0
  case lconst v0 => exact st_lconst Y v0
  case iload v0 => exact st_iload Y v0
  case aload v0 => exact st_aload Y v0
  case iload_n v0 => exact st_iload_n Y v0
  case aload_n v0 => exact st_aload_n Y v0
  case lload_n v0 => exact st_lload_n Y v0
  case istore v0 => exact st_istore Y v0
  case istore_n v0 => exact st_istore_n Y v0
  case astore v0 => exact st_astore Y v0
  case astore_n v0 => exact st_astore_n Y v0
  case iinc v0 v1 => exact st_iinc Y v0 v1
  case iadd => exact st_iadd Y
  case isub => exact st_isub Y
  case imul => exact st_imul Y
  case iand => exact st_iand Y
  case ior => exact st_ior Y
  case ixor => exact st_ixor Y
  case ishl => exact st_ishl Y
  case ishr => exact st_ishr Y
  case iushr => exact st_iushr Y
  case idiv => exact st_idiv Y
  case irem => exact st_irem Y
  case ladd => exact st_ladd Y
  case lcmp => exact st_lcmp Y
  case i2b => exact st_i2b Y
  case i2c => exact st_i2c Y
  case dup => exact st_dup Y
  case pop => exact st_pop Y
  case dup2 => exact st_dup2 Y
  case dup_x1 => exact st_dup_x1 Y
  case goto v0 => exact st_goto Y v0
  case if_icmp v0 v1 => exact st_if_icmp Y v0 v1
  case ifCond v0 v1 => exact st_ifCond Y v0 v1
  case tableswitch v0 v1 v2 v3 => exact st_tableswitch Y v0 v1 v2 v3
  case lookupswitch v0 v1 => exact st_lookupswitch Y v0 v1
  case getfield v0 => exact st_getfield Y v0
  case putfield v0 => exact st_putfield Y v0
  case iaload => exact st_iaload Y
  case caload => exact st_caload Y
  case baload => exact st_baload Y
  case laload => exact st_laload Y
  case iastore => exact st_iastore Y
  case castore => exact st_castore Y
  case bastore => exact st_bastore Y
  case lastore => exact st_lastore Y
  case arraylength => exact st_arraylength Y
  case getstatic v0 => exact st_getstatic Y v0
  case invokevirtual v0 => exact st_invokevirtual Y v0
  case invokestatic v0 => exact st_invokestatic Y v0
  case return_ => exact st_return_ Y
  case ireturn => exact st_ireturn Y
  case lreturn => exact st_lreturn Y
  all_goals
    intro n ih pc len x y z tb tl ls st σ H locs lsA hmem hI hdg hsx hnx hL hR hS h
    exact (nsm h).elim
theorem okD_at {it : Itm} (h : okD cc cd = true) (hm : it ∈ cd) : decode cc it.1 = .ok (it.2.1, it.2.2.1) := by
  unfold okD at h
  exact of_decide_eq_true (List.all_eq_true.mp h it hm)
theorem sim_go {q : Option Value × Sg} (Y : Hyp p l e R s m args below meth c cells slots Q sc D cy ad A cc mL own d cd cal q) (n : Nat) : Go p l e R s m args below meth c cells slots Q sc D cy ad A mL cd cal q n := by
  induction n with
  | zero => exact fun sx ls st σ H locs lsA pc _ _ _ _ _ h => (nsm h).elim
  | succ n ih =>
    intro sx ls st σ H locs lsA pc0 hsx0 hpc hL hR hS h
    have Y1 := Y
    obtain ⟨-, -, -, hch, hdc, hok, -, -⟩ := Y1
    cases sx with
    | nil => exact (nsm h).elim
    | cons it tl =>
      have hmem := hsx0.mem
      have hnx := hsx0.nx hch
      have hpc := hpc _ _ rfl
      have hdg := okD_at hdc hmem
      have hI := List.all_eq_true.mp hok _ hmem
      obtain ⟨pc, ins, len, x, y, z, tb⟩ := it
      dsimp only at hpc hdg hI hnx
      subst hpc
      rw [run] at h
      exact st_all Y ins n ih pc len x y z tb tl ls st σ H locs lsA hmem hI hdg hsx0.tl hnx hL hR hS h
end Sim3
theorem okA_it {k : Nat} (h : okA k = true) : chn (mcd k) = true ∧ (mcd k).all (okI (mow k) (mmL k)) = true ∧ ∀ it ∈ mcd k, retI k it = true := by
  unfold okA at h
  obtain ⟨h, h3⟩ := an h
  obtain ⟨h1, h2⟩ := an h
  refine ⟨h2, ?_, fun it hi => (an (List.all_eq_true.mp h3 it hi)).2⟩
  rw [List.all_eq_true]
  exact fun it hi => (an (List.all_eq_true.mp h3 it hi)).1
theorem okB_hd {k : Nat} (h : okB k = true) : hdp 0 (mcd k) := by
  unfold okB at h
  obtain ⟨-, h⟩ := an h
  intro it tl e
  rw [e] at h
  exact beqN h
theorem okB_pl {k : Nat} (h : okB k = true) : plainName (mY k).cls = true := by
  unfold okB at h
  obtain ⟨h, -⟩ := an h
  obtain ⟨h, -⟩ := an h
  exact (an h).1
set_option maxHeartbeats 4000000 in
/-- every method does what the small machine does -/
theorem simM (l : Launch) (D : va_G) (cy : Nat → ClassId) (ad : Nat → Nat) (A : Nat → Prop) (hAll : ∀ k, k < 340 → okA k = true) (hD : ∀ k, k < 340 → okD (mby k) (mcd k) = true) : ∀ d : Nat, CalOK l D cy ad A (ev d) d
  | 0 => fun x as σ o σ' hx hB h => (nsm h).elim
  | d + 1 => by
    intro x as σ o σ' hx3 hB h
    have ih := simM l D cy ad A hAll hD d
    have hAx := hAll x hx3
    obtain ⟨g1, g2, g3⟩ := okA_it hAx
    rw [ev] at h
    cases hle : Nat.ble (lay as).length (mmL x) with
    | false => rw [hle] at h; exact (nsm h).elim
    | true =>
    rw [hle] at h
    have hle := Nat.le_of_ble_eq_true hle
    obtain ⟨n, hrun⟩ := evAt_some h
    have hx1 : x ≠ 1 := fun e => by subst e; exact absurd (okB_pl hB) (by decide +kernel)
    have hx5 : Nat.beq x 55 = false := by
      cases hq : Nat.beq x 55 with
      | false => rfl
      | true => have := beqN hq; subst this; exact absurd (okB_pl hB) (by decide +kernel)
    have hx6 : Nat.beq x 56 = false := by
      cases hq : Nat.beq x 56 with
      | false => rfl
      | true => have := beqN hq; subst this; exact absurd (okB_pl hB) (by decide +kernel)
    obtain ⟨hW0, -⟩ := okW_of hAll hx3 hx1 hx5 hx6
    obtain ⟨w1, w2, w3, w4, w5, w6⟩ := okW_split hW0
    refine Met.ofW (cc := mby x) (maxL := mmL x) (ret := mret x) (okB_pl hB) rfl ?_
    intro p e s m args below meth c s₁ B hml hv
    obtain ⟨rfl, hK, hR, hF, hN⟩ := hv
    have hts := atoms_spec (ws := mws x) B.pre
    have hown : s.vm.findClass (mY x).cls = some m.cls := findClass_of_methodNamed B.named
    have hx := B.exec
    have hb := B.bytes
    have hr := B.returns
    have hlocks := B.notSynchronized
    rw [lg_entry_eq]
    have Y : Hyp p l e (headSpec (mws x) (mrm (d + 1))).room s m (as.map (tr ad)).toArray below meth c 0 0 (MQ below (PosA D cy ad A o σ') (as.map (tr ad)).toArray s 0 0 A) sc0 D cy ad A (mby x) (mmL x) (mow x) d (mcd x) (ev d) (o, σ') := by
      refine ⟨⟨⟨hx, hb, hml, by rw [w3]; exact hown, fun w hw => hts w (List.mem_cons_of_mem _ hw)⟩, hK, hF, Or.inl rfl, hN, ⟨Nat.le_refl _, ?_⟩⟩, ⟨Nat.zero_le _, Nat.zero_le _⟩, ih, g1, hD x hx3, g2, hAll, ?_⟩
      · show 60 + 60 * d ≤ 60 * (d + 1)
        omega
      · intro it H locs lsA hit hRp hS
        have hdg : decode (mby x) it.1 = .ok (it.2.1, it.2.2.1) := of_decide_eq_true (List.all_eq_true.mp (hD x hx3) _ hit)
        have hri := g3 it hit
        refine ⟨fun e1 e2 e3 => ?_, fun v e1 e2 e3 e4 => ?_, fun v e1 e2 e3 => ?_⟩
        · have e3 : o = none := e3
          subst e3
          unfold retI at hri
          rw [e1] at hri hdg
          rw [e2] at hdg
          have hri := of_decide_eq_true hri
          exact W.vret hx hb (by rw [hr, hri]) (fun t ht hW => ⟨⟨(), rfl, trivial, va_K.moved hW.alike hK, by rw [ht]; exact hRp⟩, hS.F ht⟩) hS.2.2 hdg
        · have e3 : o = some (.int v) := e3
          subst e3
          unfold retI at hri
          rw [e1] at hri hdg
          rw [e2] at hdg
          have fin : ∀ t : State, t.heap = H → s.WarmedH t.vm → PosA D cy ad A (some (.int v)) σ' (as.map (tr ad)).toArray s (.returned (some (.int v))) t :=
            fun t ht hW => ⟨⟨v, (), rfl, rfl, va_K.moved hW.alike hK, by rw [ht]; exact hRp⟩, hS.F ht⟩
          cases hm : mret x with
          | none => rw [hm] at hri; exact absurd (show false = true from hri) (by decide)
          | some ty =>
            rw [hm] at hri
            cases ty with
            | int => exact W.iret hx hb (by rw [hr, hm]) fin hS.2.2 hdg
            | boolean =>
              have e5 := beqN (show Nat.beq it.2.2.2.1 1 = true from hri)
              have e6 : v = 0 ∨ v = 1 := e4.elim (fun q => by rw [e5] at q; cases q) id
              exact W.zret (ty := .boolean) hx hb (by rw [hr, hm]) (by rcases e6 with rfl | rfl <;> rfl) fin hS.2.2 hdg
            | _ => exact absurd (show false = true from hri) (by decide)
        · have e3 : o = some (.long v) := e3
          subst e3
          unfold retI at hri
          rw [e1] at hri hdg
          rw [e2] at hdg
          have hri := of_decide_eq_true hri
          exact W.lret hx hb (by rw [hr, hri]) (fun t ht hW => ⟨⟨v, (), rfl, rfl, va_K.moved hW.alike hK, by rw [ht]; exact hRp⟩, hS.F ht⟩) hS.2.2 hdg
    exact sim_go Y n (mcd x) (lfl (mmL x) (lay as)) [] σ s.heap [] _ 0 ⟨[], rfl⟩ (okB_hd hB) (Lr.start hle) hR va_S.rf hrun

