/-! inversions: what a step that comes to an end has found -/
theorem nsm {α : Type} {q : α} (h : (none : Option α) = some q) : False := by cases h
theorem u1_inv {st : List Value} {f : Int32 → List Value → Rs} {q} (h : u1 st f = some q) : ∃ a r, st = .int a :: r ∧ f a r = some q := by
  unfold u1 at h; dsimp only at h; split at h
  · exact ⟨_, _, rfl, h⟩
  · exact (nsm h).elim
theorem b2_inv {st : List Value} {f : Int32 → Int32 → List Value → Rs} {q} (h : b2 st f = some q) : ∃ a b r, st = .int b :: .int a :: r ∧ f a b r = some q := by
  unfold b2 at h; dsimp only at h; split at h
  · exact ⟨_, _, _, rfl, h⟩
  · exact (nsm h).elim
theorem mm2_inv {st : List Value} {f : Int32 → Int32 → List Value → Rs} {q} (h : mm2 st f = some q) : ∃ a b r, st = .int b :: .int a :: r ∧ r.length ≤ 4 ∧ f a b r = some q := by
  unfold mm2 at h; dsimp only at h; split at h
  · split at h
    · rename_i e; exact ⟨_, _, _, rfl, Nat.le_of_ble_eq_true e, h⟩
    · exact (nsm h).elim
  · exact (nsm h).elim
theorem l2_inv {st : List Value} {f : Int64 → Int64 → List Value → Rs} {q} (h : l2 st f = some q) : ∃ a b r, st = .long b :: .long a :: r ∧ f a b r = some q := by
  unfold l2 at h; dsimp only at h; split at h
  · exact ⟨_, _, _, rfl, h⟩
  · exact (nsm h).elim
theorem ra_inv {st : List Value} {f : Nat → List Value → Rs} {q} (h : ra st f = some q) : ∃ a r, st = .ref a :: r ∧ f a r = some q := by
  unfold ra at h; dsimp only at h; split at h
  · exact ⟨_, _, rfl, h⟩
  · exact (nsm h).elim
theorem rai_inv {st : List Value} {f : Nat → Int32 → List Value → Rs} {q} (h : rai st f = some q) : ∃ a i r, st = .int i :: .ref a :: r ∧ f a i r = some q := by
  unfold rai at h; dsimp only at h; split at h
  · exact ⟨_, _, _, rfl, h⟩
  · exact (nsm h).elim
theorem raii_inv {st : List Value} {f : Nat → Int32 → Int32 → List Value → Rs} {q} (h : raii st f = some q) : ∃ a i v r, st = .int v :: .int i :: .ref a :: r ∧ f a i v r = some q := by
  unfold raii at h; dsimp only at h; split at h
  · exact ⟨_, _, _, _, rfl, h⟩
  · exact (nsm h).elim
theorem raij_inv {st : List Value} {f : Nat → Int32 → Int64 → List Value → Rs} {q} (h : raij st f = some q) : ∃ a i v r, st = .long v :: .int i :: .ref a :: r ∧ f a i v r = some q := by
  unfold raij at h; dsimp only at h; split at h
  · exact ⟨_, _, _, _, rfl, h⟩
  · exact (nsm h).elim
theorem gd_inv {k a : Nat} {X : Rs} {q} (h : gdK k a X = some q) : (SH a).1 = k ∧ X = some q := by
  unfold gdK at h; split at h
  · rename_i e; exact ⟨beqN e, h⟩
  · exact (nsm h).elim
theorem bnd_inv {i : Int32} {n : Nat} {X : Rs} {q} (h : bnd i n X = some q) : vp_in i n ∧ X = some q := by
  unfold bnd at h; split at h
  · exact (nsm h).elim
  · rename_i e; exact ⟨e, h⟩
theorem c1_cat {ad : Nat → Nat} {v : Value} (h : c1 v = true) : (tr ad v).category = 1 := by
  cases v <;> first | rfl | exact absurd (show false = true from h) (by decide)
/-! places in a listing -/
def Suf (cd s : Cod) : Prop := ∃ pre, cd = pre ++ s
def hdp (pc : Nat) (s : Cod) : Prop := ∀ it tl, s = it :: tl → it.1 = pc
theorem Suf.tl {cd tl : Cod} {it : Itm} (h : Suf cd (it :: tl)) : Suf cd tl := by
  obtain ⟨pre, e⟩ := h
  exact ⟨pre ++ [it], by rw [e]; simp⟩
theorem Suf.mem {cd tl : Cod} {it : Itm} (h : Suf cd (it :: tl)) : it ∈ cd := by
  obtain ⟨pre, e⟩ := h
  rw [e]; simp
theorem chn_suf : ∀ (pre : Cod) {s : Cod}, chn (pre ++ s) = true → chn s = true
  | [], _, h => h
  | _ :: t, _, h => chn_suf t (an h).2
theorem Suf.nx {cd tl : Cod} {it : Itm} (h : Suf cd (it :: tl)) (hc : chn cd = true) : hdp (it.1 + it.2.2.1) tl := by
  obtain ⟨pre, e⟩ := h
  rw [e] at hc
  have h1 := chn_suf pre hc
  intro b t et
  subst et
  exact beqN (an h1).1
theorem jmp_suf : ∀ (cd : Cod) (x : Nat), Suf cd (jmp cd x)
  | [], _ => ⟨[], rfl⟩
  | it :: tl, x => by
    unfold jmp
    split
    · exact ⟨[], rfl⟩
    · obtain ⟨pre, e⟩ := jmp_suf tl x
      exact ⟨it :: pre, by rw [List.cons_append, ← e]⟩
theorem jmp_hd : ∀ (cd : Cod) (x : Nat), hdp x (jmp cd x)
  | [], _ => fun _ _ h => by cases h
  | it :: tl, x => by
    intro b t et
    unfold jmp at et
    split at et
    · rename_i e
      cases et
      exact beqN e
    · exact jmp_hd tl x b t et
/-! statics, the script, the nest's words -/
def FG (sc : Scr) (ad : Nat → Nat) (A : Nat → Prop) (U : State) (H : Heap) : Prop :=
  va_T .char (ad 1) 8 (fun j => .int (FC 1 j)) A U H ∧ va_T .int (ad 2) 7 (fun j => .int (FC 2 j)) A U H ∧ va_T .char (ad 3) 8 (fun j => .int (FC 3 j)) A U H ∧
  va_Z "NamedToWed" "STEP_LETTERS" "[C" (.ref (ad 1)) A U H ∧ va_Z "NamedToWed$Changes" "FACTORIALS" "[I" (.ref (ad 2)) A U H ∧ va_Z "NamedToWed$LawReader" "LETTERS" "[C" (.ref (ad 3)) A U H
def FS (sc : Scr) (ad : Nat → Nat) (A : Nat → Prop) (U : State) (H : Heap) : Prop := va_T .int (ad 0) (sc.1 - 1) (fun j => .int (sc.2 j)) A U H
def isNw : Cond → Bool
  | .methodLinkNest _ _ _ _ => true
  | .fieldLinkNest _ _ _ _ _ _ => true
  | _ => false
def NWs (U : State) : Prop := ∀ w ∈ lw_tbl, isNw w = true → va_Nw w U
theorem NWs.warm {s U : State} (hW : s.WarmedH U.vm) (h : NWs s) : NWs U := by
  intro w hw hn
  have h1 := h w hw hn
  cases w <;> first | exact va_Nw.warmF hW h1 | exact va_Nw.warmM hW h1 | exact absurd (show false = true from hn) (by decide)
theorem FG.kept {sc : Scr} {ad : Nat → Nat} {A : Nat → Prop} {U U' : State} {H H1 : Heap} (h : FG sc ad A U H) (hvm : U.vm.Alike U'.vm) (hq : ∀ a : Nat, a < H.size → ¬ A a → H1[a]? = H[a]?) : FG sc ad A U' H1 :=
  ⟨(h.1.kept hq).moved hvm, (h.2.1.kept hq).moved hvm, (h.2.2.1.kept hq).moved hvm, (h.2.2.2.1.kept hq).moved hvm, (h.2.2.2.2.1.kept hq).moved hvm, (h.2.2.2.2.2.kept hq).moved hvm⟩
/-! contracts -/
def mws (k : Nat) : List Cond := Cond.code (mY k) (mby k) (mmL k) (mret k) :: TBg
def mrm (d : Nat) : Room := { frames := d, cells := 0, slots := 0, locals := 60 * d }
def PreB (D : va_G) (cy : Nat → ClassId) (ad : Nat → Nat) (A : Nat → Prop) (σ : Sg) (U : State) : Prop := va_K D vwCl (tyA cy) U ∧ Rp D cy ad A σ U.heap ∧ FG sc0 ad A U U.heap ∧ NWs U
def PreA (D : va_G) (cy : Nat → ClassId) (ad : Nat → Nat) (A : Nat → Prop) (as : List Value) (σ : Sg) : Array Value → State → Prop := va_Pc (as.map (tr ad)) (PreB D cy ad A σ)
def PoB (D : va_G) (cy : Nat → ClassId) (ad : Nat → Nat) (A : Nat → Prop) (σ : Sg) (t : State) : Prop := va_K D vwCl (tyA cy) t ∧ Rp D cy ad A σ t.heap
def PosA (D : va_G) (cy : Nat → ClassId) (ad : Nat → Nat) (A : Nat → Prop) (o : Option Value) (σ : Sg) : Array Value → State → Outcome → State → Prop := match o with
  | none => va_Qv (fun (_ : Unit) => True) (fun _ => PoB D cy ad A σ) A
  | some (.int v) => va_Qi (fun r (_ : Unit) => r = v) (fun _ => PoB D cy ad A σ) A
  | some (.long v) => va_Ql (fun r (_ : Unit) => r = v) (fun _ => PoB D cy ad A σ) A
  | _ => fun _ _ _ _ => False
def CalOK (l : Launch) (D : va_G) (cy : Nat → ClassId) (ad : Nat → Nat) (A : Nat → Prop) (cal : Nat → List Value → Sg → Rs) (d : Nat) : Prop :=
  ∀ x as σ o σ', x < 340 → okB x = true → cal x as σ = some (o, σ') → Met l (mY x) (mws x) (mrm d) (PreA D cy ad A as σ) (PosA D cy ad A o σ') 0 0 A
/-- what a walk stands on -/
def Cx (p : Program) (R : Room) (s : State) (m : MethodId) (args : Array Value) (c : Code) (sc : Scr) (D : va_G) (cy : Nat → ClassId) (ad : Nat → Nat) (A : Nat → Prop) (cc : ByteArray) (mL own d : Nat) : Prop :=
  (p.tables.exec = Jvm.exec ∧ c.code = cc ∧ c.maxLocals = mL ∧ s.vm.findClass (ocl own) = some m.cls ∧ (∀ w ∈ TBg, w.before args s = true)) ∧
  va_K D vwCl (tyA cy) s ∧ FG sc ad A s s.heap ∧ (sc.1 = 0 ∨ FS sc ad A s s.heap) ∧ NWs s ∧ (d + 1 ≤ R.frames ∧ 60 + 60 * d ≤ R.locals)
theorem blindP {D : va_G} {cy : Nat → ClassId} {ad : Nat → Nat} {A : Nat → Prop} {as : List Value} {σ : Sg} : FrameBlind (PreA D cy ad A as σ) := by
  intro a U g mk h
  obtain ⟨h0, h1, h2, h3, h4⟩ := h
  refine ⟨h0, va_K.moved (u := U) (U := U.calling g mk a) (Vm.Alike.refl U.vm) h1, h2, h3.kept (U' := U.calling g mk a) (Vm.Alike.refl U.vm) (fun _ _ _ => rfl), ?_⟩
  exact NWs.warm (s := U) (State.WarmedH.refl U) h4
theorem cat_le : ∀ {r : List Value}, r.length ≤ 4 → (r.map fun v => v.category).sum ≤ 8 := by
  intro r h
  have : ∀ l : List Value, (l.map fun v => v.category).sum ≤ 2 * l.length := by
    intro l
    induction l with
    | nil => simp
    | cons v t ih =>
      have : v.category ≤ 2 := by cases v <;> simp [Value.category]
      simp only [List.map_cons, List.sum_cons, List.length_cons]
      omega
  have := this r
  omega
theorem SH_17 : ∀ a, Nat.beq (SH a).1 17 = true → a = 2 := by
  intro a h
  rcases Nat.lt_or_ge a 158 with q | q
  · exact (by decide +kernel : ∀ a, a < 158 → Nat.beq (SH a).1 17 = true → a = 2) a q h
  · rw [SH_big q] at h; exact absurd h (by decide)
theorem SH_18 : ∀ a, Nat.beq (SH a).1 18 = true → a = 1 ∨ a = 3 := by
  intro a h
  rcases Nat.lt_or_ge a 158 with q | q
  · exact (by decide +kernel : ∀ a, a < 158 → Nat.beq (SH a).1 18 = true → a = 1 ∨ a = 3) a q h
  · rw [SH_big q] at h; exact absurd h (by decide)
theorem SH_16 : ∀ a, Nat.beq (SH a).1 16 = true → a = 0 := by
  intro a h
  rcases Nat.lt_or_ge a 158 with q | q
  · exact (by decide +kernel : ∀ a, a < 158 → Nat.beq (SH a).1 16 = true → a = 0) a q h
  · rw [SH_big q] at h; exact absurd h (by decide)
/-! what is written stands in the store -/
section Wr
variable {D : va_G} {cy : Nat → ClassId} {ad : Nat → Nat} {A : Nat → Prop} {σ : Sg} {a x y : Nat}
theorem at_obj (h : (SH a).1 = x) (hx : x < 12) : (wsA cy ad σ)[a - 4]? = some (ad a, .inr (x, (List.range (nf x)).map (fdV ad σ a x))) := by
  obtain ⟨h1, h2⟩ := SH_id (a := a) (by omega)
  rw [wsA_at h1 h2, enA_obj h hx]
theorem at_int (h : (SH a).1 = x) (hx : x = 12 ∨ x = 13 ∨ x = 14) : (wsA cy ad σ)[a - 4]? = some (ad a, .inl (cy x, (SH a).2, .inl (σ.1 a))) := by
  obtain ⟨h1, h2⟩ := SH_id (a := a) (by omega)
  rw [wsA_at h1 h2, enA_int h hx]
theorem at_long (h : (SH a).1 = 15) : (wsA cy ad σ)[a - 4]? = some (ad a, .inl (cy 15, (SH a).2, .inr (.inl (σ.2.1 a)))) := by
  obtain ⟨h1, h2⟩ := SH_id (a := a) (by omega)
  rw [wsA_at h1 h2, enA_long h]
theorem set_pI {v : Int32} (h : (SH a).1 = x) (hx : x < 12) (h1 : fk x y ≠ 1) (h2 : fk x y ≠ 2) :
    (wsA cy ad σ).set (a - 4) (ad a, .inr (x, ((List.range (nf x)).map (fdV ad σ a x)).set y (.int v))) = wsA cy ad (sI σ a y v) := by
  obtain ⟨q1, q2⟩ := SH_id (a := a) (by omega)
  rw [← wsA_set (σ' := sI σ a y v) (a := a) q1 (fun b hb => enA_congr (sI_ne hb) rfl rfl), enA_obj h hx]
  rw [range_set (g := fdV ad (sI σ a y v) a x)]
  · unfold fdV
    split
    · rename_i e; exact absurd e h1
    · rename_i e; exact absurd e h2
    · simp [sI]
  · intro j hj
    unfold fdV
    split
    · rfl
    · rfl
    · simp [sI, hj]
theorem set_pR {v : Nat} (h : (SH a).1 = x) (hx : x < 12) (h2 : fk x y = 2) :
    (wsA cy ad σ).set (a - 4) (ad a, .inr (x, ((List.range (nf x)).map (fdV ad σ a x)).set y (.ref (ad v)))) = wsA cy ad (sR σ a y v) := by
  obtain ⟨q1, q2⟩ := SH_id (a := a) (by omega)
  rw [← wsA_set (σ' := sR σ a y v) (a := a) q1 (fun b hb => enA_congr (σ := σ) (σ' := sR σ a y v) rfl rfl (sR_ne hb)), enA_obj h hx]
  rw [range_set (g := fdV ad (sR σ a y v) a x)]
  · unfold fdV
    rw [h2]
    simp [sR]
  · intro j hj
    unfold fdV
    split
    · rfl
    · simp [sR, hj]
    · rfl
theorem set_aI {i : Nat} {v : Int32} (h : (SH a).1 = x) (hx : x = 12 ∨ x = 13 ∨ x = 14) :
    (wsA cy ad σ).set (a - 4) (ad a, .inl (cy x, (SH a).2, .inl (upd (σ.1 a) i v))) = wsA cy ad (sI σ a i v) := by
  obtain ⟨q1, q2⟩ := SH_id (a := a) (by omega)
  rw [← wsA_set (σ' := sI σ a i v) (a := a) q1 (fun b hb => enA_congr (sI_ne hb) rfl rfl), enA_int h hx, sI_self]
theorem set_aJ {i : Nat} {v : Int64} (h : (SH a).1 = 15) :
    (wsA cy ad σ).set (a - 4) (ad a, .inl (cy 15, (SH a).2, .inr (.inl (vp_updL (σ.2.1 a) i v)))) = wsA cy ad (sJ σ a i v) := by
  obtain ⟨q1, q2⟩ := SH_id (a := a) (by omega)
  rw [← wsA_set (σ' := sJ σ a i v) (a := a) q1 (fun b hb => enA_congr (σ := σ) (σ' := sJ σ a i v) rfl (sJ_ne hb) rfl), enA_long h, sJ_self]
theorem set_aC {a0 sp dp n : Nat} (h : (SH a).1 = 14) :
    (wsA cy ad σ).set (a - 4) (ad a, .inl (cy 14, (SH a).2, .inl (va_cpy (σ.1 a0) (σ.1 a) sp dp n))) = wsA cy ad (sC σ a0 a sp dp n) := by
  obtain ⟨q1, q2⟩ := SH_id (a := a) (by omega)
  rw [← wsA_set (σ' := sC σ a0 a sp dp n) (a := a) q1 (fun b hb => enA_congr (sC_ne hb) rfl rfl), enA_int h (.inr (.inr rfl)), sC_self]
theorem fdV_at {k : Nat} (hy : y < k) : ((List.range k).map (fdV ad σ a x))[y]? = some (fdV ad σ a x y) := by
  rw [List.getElem?_map, List.getElem?_range hy]; rfl
end Wr
