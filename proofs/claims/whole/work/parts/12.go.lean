/-! THE STEP OF EVERY INSTRUCTION -/
section Sim2
variable {p : Program} {l : Launch} {e : Env} {R : Room} {s : State} {m : MethodId} {args : Array Value} {below : List Frame} {meth : Method} {c : Code} {cells slots : Nat} {Q : State → Prop}
variable {sc : Scr} {D : va_G} {cy : Nat → ClassId} {ad : Nat → Nat} {A : Nat → Prop} {cc : ByteArray} {mL own d : Nat} {cd : Cod} {cal : Nat → List Value → Sg → Rs}
theorem i32mod (x y : Int32) : x - x / y * y = x % y := by
  apply Int32.toInt_inj.mp
  have h1 : (x % y).toInt = x.toInt.tmod y.toInt := Int32.toInt_mod x y
  have h2 : ((x % y).toInt).bmod (2 ^ 32) = (x % y).toInt := by
    have := Int32.toInt_lt (x % y)
    have := Int32.le_toInt (x % y)
    simp only [Int.bmod]
    omega
  rw [Int32.toInt_sub, Int32.toInt_mul, Int32.toInt_div, ← h2, h1, Int.sub_bmod_bmod, Int.tmod_def]
  have e : ∀ a b c : Int, (a - (b.bmod (2 ^ 32)) * c).bmod (2 ^ 32) = (a - b * c).bmod (2 ^ 32) := fun a b c => by
    rw [← Int.sub_bmod_bmod, Int.bmod_mul_bmod, Int.sub_bmod_bmod]
  rw [e, Int.mul_comm]
theorem sw_inv {a : Int32} {f : Nat → Rs} {dd : Rs} {q : Option Value × Sg} : ∀ {tb : List (Int32 × Nat)}, sw a f dd tb = some q → (∃ (k : Nat) (t : Nat), tb[k]? = some (a, t) ∧ (∀ j, j < k → ∀ w, tb[j]? = some w → w.1 ≠ a) ∧ f t = some q) ∨ ((∀ w ∈ tb, w.1 ≠ a) ∧ dd = some q)
  | [], h => Or.inr ⟨fun _ h => absurd h List.not_mem_nil, h⟩
  | w :: t, h => by
    unfold sw at h
    split at h
    · rename_i e
      exact Or.inl ⟨0, w.2, by rw [e]; rfl, fun j hj => absurd hj (by omega), h⟩
    · rename_i e
      rcases sw_inv h with ⟨k, t', h1, h2, h3⟩ | ⟨h1, h2⟩
      · refine Or.inl ⟨k + 1, t', h1, fun j hj w' hw => ?_, h3⟩
        cases j with
        | zero =>
          have : w = w' := Option.some.inj hw
          subst this
          exact fun q => e q.symm
        | succ j => exact h2 j (by omega) w' hw
      · exact Or.inr ⟨fun w' hw => (List.mem_cons.mp hw).elim (fun q => by rw [q]; exact fun q => e q.symm) (h1 w'), h2⟩
theorem tbOf_at {pc : Nat} : ∀ (offs : List Int) (lo : Int) (k : Nat), (tbOf pc lo offs)[k]? = (offs[k]?).map (fun o => (Int32.ofInt (lo + k), ((pc : Int) + o).toNat))
  | [], _, _ => by simp [tbOf]
  | o :: t, lo, 0 => by simp [tbOf]
  | o :: t, lo, k + 1 => by
    have := tbOf_at (pc := pc) t (lo + 1) k
    simp only [tbOf, List.getElem?_cons_succ, this]
    rw [show lo + 1 + (k : Int) = lo + ((k + 1 : Nat) : Int) by omega]
theorem toInt_small {z : Int} (h : -2000 ≤ z) (h' : z < 2000) : (Int32.ofInt z).toInt = z := by
  rw [Int32.toInt_ofInt]
  simp only [Int.bmod, Int32.size]
  omega
/-- what a walk has at hand -/
def Hyp (p : Program) (l : Launch) (e : Env) (R : Room) (s : State) (m : MethodId) (args : Array Value) (below : List Frame) (meth : Method) (c : Code) (cells slots : Nat) (Q : State → Prop) (sc : Scr) (D : va_G) (cy : Nat → ClassId) (ad : Nat → Nat) (A : Nat → Prop) (cc : ByteArray) (mL own d : Nat) (cd : Cod) (cal : Nat → List Value → Sg → Rs) (q : Option Value × Sg) : Prop := Cx p R s m args c sc D cy ad A cc mL own d ∧ (cells ≤ R.cells ∧ slots ≤ R.slots) ∧ CalOK l D cy ad A cal d ∧ chn cd = true ∧ okD cc cd = true ∧ cd.all (okI own mL) = true ∧ (∀ k, k < 340 → okA k = true) ∧ Fnd p l e R s m args below meth c cells slots Q D cy ad A cd q
/-- an instruction's step -/
def StK (p : Program) (l : Launch) (e : Env) (R : Room) (s : State) (m : MethodId) (args : Array Value) (below : List Frame) (meth : Method) (c : Code) (cells slots : Nat) (Q : State → Prop) (sc : Scr) (D : va_G) (cy : Nat → ClassId) (ad : Nat → Nat) (A : Nat → Prop) (cc : ByteArray) (mL own d : Nat) (cd : Cod) (cal : Nat → List Value → Sg → Rs) (q : Option Value × Sg) (ins : Instr) : Prop := ∀ (n : Nat), Go p l e R s m args below meth c cells slots Q sc D cy ad A mL cd cal q n → ∀ (pc len x y : Nat) (z : Int32) (tb : List (Int32 × Nat)) (tl : Cod) (ls st : List Value) (σ : Sg) (H : Heap) (locs : List Loc) (lsA : Array Slot),
  (pc, ins, len, x, y, z, tb) ∈ cd → okI own mL (pc, ins, len, x, y, z, tb) = true → decode cc pc = .ok (ins, len) → Suf cd tl → hdp (pc + len) tl → Lr ad ls lsA mL → Rp D cy ad A σ H → va_S A s.heap H locs →
  stp sc cal cd (run sc cal cd n) (pc, ins, len, x, y, z, tb) tl ls st σ = some q → W p l e R s m args below meth c H locs cells slots Q (F0 m pc lsA (st.map (tr ad)))
theorem goJ {q : Option Value × Sg} {n : Nat} (ih : Go p l e R s m args below meth c cells slots Q sc D cy ad A mL cd cal q n) (t : Nat) (ls st : List Value) (σ : Sg) (H : Heap) (locs : List Loc) (lsA : Array Slot) (hL : Lr ad ls lsA mL) (hR : Rp D cy ad A σ H) (hS : va_S A s.heap H locs) (h : run sc cal cd n (jmp cd t) ls st σ = some q) : W p l e R s m args below meth c H locs cells slots Q (F0 m t lsA (st.map (tr ad))) :=
  ih (jmp cd t) ls st σ H locs lsA t (jmp_suf cd t) (jmp_hd cd t) hL hR hS h
set_option maxHeartbeats 100000 in
theorem st_iconst {q : Option Value × Sg} (Y : Hyp p l e R s m args below meth c cells slots Q sc D cy ad A cc mL own d cd cal q) (nn : Int) : StK p l e R s m args below meth c cells slots Q sc D cy ad A cc mL own d cd cal q (.iconst nn) := by
  intro n ih pc len x y z tb tl ls st σ H locs lsA hmem hI hdg hsx hnx hL hR hS h
  obtain ⟨C0, hcr, hM, hch, hdc, hok, hAll, hfin⟩ := Y
  have C1 := C0
  obtain ⟨⟨hx, hb, hml, hown, hts⟩, hK, hF0, hF1, hN, hroom⟩ := C1
  have hwd : ∀ {pp : Nat} {w : Qw}, wdi pp w = true → goodWord (dw w) = true → (dw w).before args s = true := fun h1 h2 => hts _ (mem_good (wd_of h1) h2)
  obtain ⟨h1, h2⟩ := an hI
  have hl := beqN h1; subst hl
  exact lv_iconst (v := z) hx hb hdg (of_decide_eq_true h2) (ih tl ls (.int z :: st) σ H locs lsA (pc + 1) hsx hnx hL hR hS h)
set_option maxHeartbeats 100000 in
theorem st_bipush {q : Option Value × Sg} (Y : Hyp p l e R s m args below meth c cells slots Q sc D cy ad A cc mL own d cd cal q) (nn : Int) : StK p l e R s m args below meth c cells slots Q sc D cy ad A cc mL own d cd cal q (.bipush nn) := by
  intro n ih pc len x y z tb tl ls st σ H locs lsA hmem hI hdg hsx hnx hL hR hS h
  obtain ⟨C0, hcr, hM, hch, hdc, hok, hAll, hfin⟩ := Y
  have C1 := C0
  obtain ⟨⟨hx, hb, hml, hown, hts⟩, hK, hF0, hF1, hN, hroom⟩ := C1
  have hwd : ∀ {pp : Nat} {w : Qw}, wdi pp w = true → goodWord (dw w) = true → (dw w).before args s = true := fun h1 h2 => hts _ (mem_good (wd_of h1) h2)
  obtain ⟨h1, h2⟩ := an hI
  have hl := beqN h1; subst hl
  exact lv_bipush (v := z) hx hb hdg (of_decide_eq_true h2) (ih tl ls (.int z :: st) σ H locs lsA (pc + 2) hsx hnx hL hR hS h)
set_option maxHeartbeats 100000 in
theorem st_sipush {q : Option Value × Sg} (Y : Hyp p l e R s m args below meth c cells slots Q sc D cy ad A cc mL own d cd cal q) (nn : Int) : StK p l e R s m args below meth c cells slots Q sc D cy ad A cc mL own d cd cal q (.sipush nn) := by
  intro n ih pc len x y z tb tl ls st σ H locs lsA hmem hI hdg hsx hnx hL hR hS h
  obtain ⟨C0, hcr, hM, hch, hdc, hok, hAll, hfin⟩ := Y
  have C1 := C0
  obtain ⟨⟨hx, hb, hml, hown, hts⟩, hK, hF0, hF1, hN, hroom⟩ := C1
  have hwd : ∀ {pp : Nat} {w : Qw}, wdi pp w = true → goodWord (dw w) = true → (dw w).before args s = true := fun h1 h2 => hts _ (mem_good (wd_of h1) h2)
  obtain ⟨h1, h2⟩ := an hI
  have hl := beqN h1; subst hl
  exact lv_sipush (v := z) hx hb hdg (of_decide_eq_true h2) (ih tl ls (.int z :: st) σ H locs lsA (pc + 3) hsx hnx hL hR hS h)
set_option maxHeartbeats 100000 in
theorem st_ldc {q : Option Value × Sg} (Y : Hyp p l e R s m args below meth c cells slots Q sc D cy ad A cc mL own d cd cal q) (ii : Nat) : StK p l e R s m args below meth c cells slots Q sc D cy ad A cc mL own d cd cal q (.ldc ii) := by
  intro n ih pc len x y z tb tl ls st σ H locs lsA hmem hI hdg hsx hnx hL hR hS h
  obtain ⟨C0, hcr, hM, hch, hdc, hok, hAll, hfin⟩ := Y
  have C1 := C0
  obtain ⟨⟨hx, hb, hml, hown, hts⟩, hK, hF0, hF1, hN, hroom⟩ := C1
  have hwd : ∀ {pp : Nat} {w : Qw}, wdi pp w = true → goodWord (dw w) = true → (dw w).before args s = true := fun h1 h2 => hts _ (mem_good (wd_of h1) h2)
  match y, h, hI with
  | 0, h, _ => exact (nsm h).elim
  | n + 2, h, _ => exact (nsm h).elim
  | 1, h, hI =>
    obtain ⟨h1, h2⟩ := an (show (Nat.beq len 2 && (wdi (pl1 tb) (8, own, ii, pl2 tb) && decide (cz (pl2 tb) = z))) = true from hI)
    have hl := beqN h1; subst hl
    obtain ⟨h2, h3⟩ := an h2
    have h4 : (Cond.constant (ocl own) ii (cz (pl2 tb))).before args s = true := hwd h2 rfl
    rw [of_decide_eq_true h3] at h4
    exact lv_ldc (v := z) hx hb hown h4 hdg (ih tl ls (.int z :: st) σ H locs lsA (pc + 2) hsx hnx hL hR hS h)
set_option maxHeartbeats 100000 in
theorem st_ldc_w {q : Option Value × Sg} (Y : Hyp p l e R s m args below meth c cells slots Q sc D cy ad A cc mL own d cd cal q) (ii : Nat) : StK p l e R s m args below meth c cells slots Q sc D cy ad A cc mL own d cd cal q (.ldc_w ii) := by
  intro n ih pc len x y z tb tl ls st σ H locs lsA hmem hI hdg hsx hnx hL hR hS h
  obtain ⟨C0, hcr, hM, hch, hdc, hok, hAll, hfin⟩ := Y
  have C1 := C0
  obtain ⟨⟨hx, hb, hml, hown, hts⟩, hK, hF0, hF1, hN, hroom⟩ := C1
  have hwd : ∀ {pp : Nat} {w : Qw}, wdi pp w = true → goodWord (dw w) = true → (dw w).before args s = true := fun h1 h2 => hts _ (mem_good (wd_of h1) h2)
  match y, h, hI with
  | 0, h, _ => exact (nsm h).elim
  | n + 2, h, _ => exact (nsm h).elim
  | 1, h, hI =>
    obtain ⟨h1, h2⟩ := an (show (Nat.beq len 3 && (wdi (pl1 tb) (8, own, ii, pl2 tb) && decide (cz (pl2 tb) = z))) = true from hI)
    have hl := beqN h1; subst hl
    obtain ⟨h2, h3⟩ := an h2
    have h4 : (Cond.constant (ocl own) ii (cz (pl2 tb))).before args s = true := hwd h2 rfl
    rw [of_decide_eq_true h3] at h4
    exact lv_ldcw (v := z) hx hb hown h4 hdg (ih tl ls (.int z :: st) σ H locs lsA (pc + 3) hsx hnx hL hR hS h)
set_option maxHeartbeats 100000 in
theorem st_ldc2_w {q : Option Value × Sg} (Y : Hyp p l e R s m args below meth c cells slots Q sc D cy ad A cc mL own d cd cal q) (ii : Nat) : StK p l e R s m args below meth c cells slots Q sc D cy ad A cc mL own d cd cal q (.ldc2_w ii) := by
  intro n ih pc len x y z tb tl ls st σ H locs lsA hmem hI hdg hsx hnx hL hR hS h
  obtain ⟨C0, hcr, hM, hch, hdc, hok, hAll, hfin⟩ := Y
  have C1 := C0
  obtain ⟨⟨hx, hb, hml, hown, hts⟩, hK, hF0, hF1, hN, hroom⟩ := C1
  have hwd : ∀ {pp : Nat} {w : Qw}, wdi pp w = true → goodWord (dw w) = true → (dw w).before args s = true := fun h1 h2 => hts _ (mem_good (wd_of h1) h2)
  match y, h, hI with
  | 0, h, _ => exact (nsm h).elim
  | n + 2, h, _ => exact (nsm h).elim
  | 1, h, hI =>
    obtain ⟨h1, h2⟩ := an (show (Nat.beq len 3 && wdx (pl1 tb) (.constantLong (ocl own) ii z.toInt64)) = true from hI)
    have hl := beqN h1; subst hl
    exact lv_ldc2 (v := z.toInt64) hx hb hown (hts _ (mem_good (wx_of h2) rfl)) hdg (ih tl ls (.long z.toInt64 :: st) σ H locs lsA (pc + 3) hsx hnx hL hR hS h)
set_option maxHeartbeats 100000 in
theorem st_lconst {q : Option Value × Sg} (Y : Hyp p l e R s m args below meth c cells slots Q sc D cy ad A cc mL own d cd cal q) (nn : Fin 2) : StK p l e R s m args below meth c cells slots Q sc D cy ad A cc mL own d cd cal q (.lconst nn) := by
  intro n ih pc len x y z tb tl ls st σ H locs lsA hmem hI hdg hsx hnx hL hR hS h
  obtain ⟨C0, hcr, hM, hch, hdc, hok, hAll, hfin⟩ := Y
  have C1 := C0
  obtain ⟨⟨hx, hb, hml, hown, hts⟩, hK, hF0, hF1, hN, hroom⟩ := C1
  have hwd : ∀ {pp : Nat} {w : Qw}, wdi pp w = true → goodWord (dw w) = true → (dw w).before args s = true := fun h1 h2 => hts _ (mem_good (wd_of h1) h2)
  obtain ⟨h1, h2⟩ := an hI
  have hl := beqN h1; subst hl
  exact lv_lconst (v := z.toInt64) hx hb hdg (of_decide_eq_true h2) (ih tl ls (.long z.toInt64 :: st) σ H locs lsA (pc + 1) hsx hnx hL hR hS h)
set_option maxHeartbeats 100000 in
theorem st_iload {q : Option Value × Sg} (Y : Hyp p l e R s m args below meth c cells slots Q sc D cy ad A cc mL own d cd cal q) (ii : Nat) : StK p l e R s m args below meth c cells slots Q sc D cy ad A cc mL own d cd cal q (.iload ii) := by
  intro n ih pc len x y z tb tl ls st σ H locs lsA hmem hI hdg hsx hnx hL hR hS h
  obtain ⟨C0, hcr, hM, hch, hdc, hok, hAll, hfin⟩ := Y
  have C1 := C0
  obtain ⟨⟨hx, hb, hml, hown, hts⟩, hK, hF0, hF1, hN, hroom⟩ := C1
  have hwd : ∀ {pp : Nat} {w : Qw}, wdi pp w = true → goodWord (dw w) = true → (dw w).before args s = true := fun h1 h2 => hts _ (mem_good (wd_of h1) h2)
  obtain ⟨h1, h2⟩ := an hI
  have hl := beqN h1; subst hl
  have hi := beqN h2; subst hi
  have h : (match lgt ls ii with | .int v => run sc cal cd n tl ls (.int v :: st) σ | _ => none) = some q := h
  split at h
  · rename_i v hv
    exact lv_iload hx hb hdg (Lr.int hL hv) (ih tl ls (.int v :: st) σ H locs lsA (pc + 2) hsx hnx hL hR hS h)
  · exact (nsm h).elim
set_option maxHeartbeats 100000 in
theorem st_aload {q : Option Value × Sg} (Y : Hyp p l e R s m args below meth c cells slots Q sc D cy ad A cc mL own d cd cal q) (ii : Nat) : StK p l e R s m args below meth c cells slots Q sc D cy ad A cc mL own d cd cal q (.aload ii) := by
  intro n ih pc len x y z tb tl ls st σ H locs lsA hmem hI hdg hsx hnx hL hR hS h
  obtain ⟨C0, hcr, hM, hch, hdc, hok, hAll, hfin⟩ := Y
  have C1 := C0
  obtain ⟨⟨hx, hb, hml, hown, hts⟩, hK, hF0, hF1, hN, hroom⟩ := C1
  have hwd : ∀ {pp : Nat} {w : Qw}, wdi pp w = true → goodWord (dw w) = true → (dw w).before args s = true := fun h1 h2 => hts _ (mem_good (wd_of h1) h2)
  obtain ⟨h1, h2⟩ := an hI
  have hl := beqN h1; subst hl
  have hi := beqN h2; subst hi
  have h : (match lgt ls ii with | .ref v => run sc cal cd n tl ls (.ref v :: st) σ | _ => none) = some q := h
  split at h
  · rename_i v hv
    exact lv_aload hx hb hdg (Lr.ref hL hv) (ih tl ls (.ref v :: st) σ H locs lsA (pc + 2) hsx hnx hL hR hS h)
  · exact (nsm h).elim
set_option maxHeartbeats 100000 in
theorem st_iload_n {q : Option Value × Sg} (Y : Hyp p l e R s m args below meth c cells slots Q sc D cy ad A cc mL own d cd cal q) (ii : Fin 4) : StK p l e R s m args below meth c cells slots Q sc D cy ad A cc mL own d cd cal q (.iload_n ii) := by
  intro n ih pc len x y z tb tl ls st σ H locs lsA hmem hI hdg hsx hnx hL hR hS h
  obtain ⟨C0, hcr, hM, hch, hdc, hok, hAll, hfin⟩ := Y
  have C1 := C0
  obtain ⟨⟨hx, hb, hml, hown, hts⟩, hK, hF0, hF1, hN, hroom⟩ := C1
  have hwd : ∀ {pp : Nat} {w : Qw}, wdi pp w = true → goodWord (dw w) = true → (dw w).before args s = true := fun h1 h2 => hts _ (mem_good (wd_of h1) h2)
  obtain ⟨h1, h2⟩ := an hI
  have hl := beqN h1; subst hl
  have hi := beqN h2
  have h : (match lgt ls x with | .int v => run sc cal cd n tl ls (.int v :: st) σ | _ => none) = some q := h
  split at h
  · rename_i v hv
    exact lv_iload_n hx hb hdg hi (Lr.int hL hv) (ih tl ls (.int v :: st) σ H locs lsA (pc + 1) hsx hnx hL hR hS h)
  · exact (nsm h).elim
set_option maxHeartbeats 100000 in
theorem st_aload_n {q : Option Value × Sg} (Y : Hyp p l e R s m args below meth c cells slots Q sc D cy ad A cc mL own d cd cal q) (ii : Fin 4) : StK p l e R s m args below meth c cells slots Q sc D cy ad A cc mL own d cd cal q (.aload_n ii) := by
  intro n ih pc len x y z tb tl ls st σ H locs lsA hmem hI hdg hsx hnx hL hR hS h
  obtain ⟨C0, hcr, hM, hch, hdc, hok, hAll, hfin⟩ := Y
  have C1 := C0
  obtain ⟨⟨hx, hb, hml, hown, hts⟩, hK, hF0, hF1, hN, hroom⟩ := C1
  have hwd : ∀ {pp : Nat} {w : Qw}, wdi pp w = true → goodWord (dw w) = true → (dw w).before args s = true := fun h1 h2 => hts _ (mem_good (wd_of h1) h2)
  obtain ⟨h1, h2⟩ := an hI
  have hl := beqN h1; subst hl
  have hi := beqN h2
  have h : (match lgt ls x with | .ref v => run sc cal cd n tl ls (.ref v :: st) σ | _ => none) = some q := h
  split at h
  · rename_i v hv
    exact lv_aload_n hx hb hdg hi (Lr.ref hL hv) (ih tl ls (.ref v :: st) σ H locs lsA (pc + 1) hsx hnx hL hR hS h)
  · exact (nsm h).elim
set_option maxHeartbeats 100000 in
theorem st_lload_n {q : Option Value × Sg} (Y : Hyp p l e R s m args below meth c cells slots Q sc D cy ad A cc mL own d cd cal q) (ii : Fin 4) : StK p l e R s m args below meth c cells slots Q sc D cy ad A cc mL own d cd cal q (.lload_n ii) := by
  intro n ih pc len x y z tb tl ls st σ H locs lsA hmem hI hdg hsx hnx hL hR hS h
  obtain ⟨C0, hcr, hM, hch, hdc, hok, hAll, hfin⟩ := Y
  have C1 := C0
  obtain ⟨⟨hx, hb, hml, hown, hts⟩, hK, hF0, hF1, hN, hroom⟩ := C1
  have hwd : ∀ {pp : Nat} {w : Qw}, wdi pp w = true → goodWord (dw w) = true → (dw w).before args s = true := fun h1 h2 => hts _ (mem_good (wd_of h1) h2)
  obtain ⟨h1, h2⟩ := an hI
  have hl := beqN h1; subst hl
  have hi := beqN h2
  have h : (match lgt ls x with | .long v => run sc cal cd n tl ls (.long v :: st) σ | _ => none) = some q := h
  split at h
  · rename_i v hv
    exact lv_lload_n hx hb hdg hi (Lr.long hL hv) (ih tl ls (.long v :: st) σ H locs lsA (pc + 1) hsx hnx hL hR hS h)
  · exact (nsm h).elim
set_option maxHeartbeats 100000 in
theorem st_istore {q : Option Value × Sg} (Y : Hyp p l e R s m args below meth c cells slots Q sc D cy ad A cc mL own d cd cal q) (ii : Nat) : StK p l e R s m args below meth c cells slots Q sc D cy ad A cc mL own d cd cal q (.istore ii) := by
  intro n ih pc len x y z tb tl ls st σ H locs lsA hmem hI hdg hsx hnx hL hR hS h
  obtain ⟨C0, hcr, hM, hch, hdc, hok, hAll, hfin⟩ := Y
  have C1 := C0
  obtain ⟨⟨hx, hb, hml, hown, hts⟩, hK, hF0, hF1, hN, hroom⟩ := C1
  have hwd : ∀ {pp : Nat} {w : Qw}, wdi pp w = true → goodWord (dw w) = true → (dw w).before args s = true := fun h1 h2 => hts _ (mem_good (wd_of h1) h2)
  obtain ⟨h1, h3⟩ := an hI
  obtain ⟨h1, h2⟩ := an h1
  have hl := beqN h1; subst hl
  have hi := beqN h2; subst hi
  obtain ⟨v, r, rfl, g⟩ := u1_inv h
  replace h := g
  exact lv_istore hx hb hdg hL.has (bltN h3) rfl (fun ls' hh => ih tl (lpt ls ii (.int v)) r σ H locs ls' (pc + 2) hsx hnx (hL.of (v := .int v) (bltN h3) hh) hR hS h)
set_option maxHeartbeats 100000 in
theorem st_istore_n {q : Option Value × Sg} (Y : Hyp p l e R s m args below meth c cells slots Q sc D cy ad A cc mL own d cd cal q) (ii : Fin 4) : StK p l e R s m args below meth c cells slots Q sc D cy ad A cc mL own d cd cal q (.istore_n ii) := by
  intro n ih pc len x y z tb tl ls st σ H locs lsA hmem hI hdg hsx hnx hL hR hS h
  obtain ⟨C0, hcr, hM, hch, hdc, hok, hAll, hfin⟩ := Y
  have C1 := C0
  obtain ⟨⟨hx, hb, hml, hown, hts⟩, hK, hF0, hF1, hN, hroom⟩ := C1
  have hwd : ∀ {pp : Nat} {w : Qw}, wdi pp w = true → goodWord (dw w) = true → (dw w).before args s = true := fun h1 h2 => hts _ (mem_good (wd_of h1) h2)
  obtain ⟨h1, h3⟩ := an hI
  obtain ⟨h1, h2⟩ := an h1
  have hl := beqN h1; subst hl
  have hi := beqN h2
  obtain ⟨v, r, rfl, g⟩ := u1_inv h
  replace h := g
  exact lv_istore_n hx hb hdg hi hL.has (bltN h3) rfl (fun ls' hh => ih tl (lpt ls x (.int v)) r σ H locs ls' (pc + 1) hsx hnx (hL.of (v := .int v) (bltN h3) hh) hR hS h)
set_option maxHeartbeats 100000 in
theorem st_astore {q : Option Value × Sg} (Y : Hyp p l e R s m args below meth c cells slots Q sc D cy ad A cc mL own d cd cal q) (ii : Nat) : StK p l e R s m args below meth c cells slots Q sc D cy ad A cc mL own d cd cal q (.astore ii) := by
  intro n ih pc len x y z tb tl ls st σ H locs lsA hmem hI hdg hsx hnx hL hR hS h
  obtain ⟨C0, hcr, hM, hch, hdc, hok, hAll, hfin⟩ := Y
  have C1 := C0
  obtain ⟨⟨hx, hb, hml, hown, hts⟩, hK, hF0, hF1, hN, hroom⟩ := C1
  have hwd : ∀ {pp : Nat} {w : Qw}, wdi pp w = true → goodWord (dw w) = true → (dw w).before args s = true := fun h1 h2 => hts _ (mem_good (wd_of h1) h2)
  obtain ⟨h1, h3⟩ := an hI
  obtain ⟨h1, h2⟩ := an h1
  have hl := beqN h1; subst hl
  have hi := beqN h2; subst hi
  obtain ⟨v, r, rfl, g⟩ := ra_inv h
  replace h := g
  exact lv_astore hx hb hdg hL.has (bltN h3) rfl (fun ls' hh => ih tl (lpt ls ii (.ref v)) r σ H locs ls' (pc + 2) hsx hnx (hL.of (v := .ref v) (bltN h3) hh) hR hS h)
set_option maxHeartbeats 100000 in
theorem st_astore_n {q : Option Value × Sg} (Y : Hyp p l e R s m args below meth c cells slots Q sc D cy ad A cc mL own d cd cal q) (ii : Fin 4) : StK p l e R s m args below meth c cells slots Q sc D cy ad A cc mL own d cd cal q (.astore_n ii) := by
  intro n ih pc len x y z tb tl ls st σ H locs lsA hmem hI hdg hsx hnx hL hR hS h
  obtain ⟨C0, hcr, hM, hch, hdc, hok, hAll, hfin⟩ := Y
  have C1 := C0
  obtain ⟨⟨hx, hb, hml, hown, hts⟩, hK, hF0, hF1, hN, hroom⟩ := C1
  have hwd : ∀ {pp : Nat} {w : Qw}, wdi pp w = true → goodWord (dw w) = true → (dw w).before args s = true := fun h1 h2 => hts _ (mem_good (wd_of h1) h2)
  obtain ⟨h1, h3⟩ := an hI
  obtain ⟨h1, h2⟩ := an h1
  have hl := beqN h1; subst hl
  have hi := beqN h2
  obtain ⟨v, r, rfl, g⟩ := ra_inv h
  replace h := g
  exact lv_astore_n hx hb hdg hi hL.has (bltN h3) rfl (fun ls' hh => ih tl (lpt ls x (.ref v)) r σ H locs ls' (pc + 1) hsx hnx (hL.of (v := .ref v) (bltN h3) hh) hR hS h)
set_option maxHeartbeats 100000 in
theorem st_iinc {q : Option Value × Sg} (Y : Hyp p l e R s m args below meth c cells slots Q sc D cy ad A cc mL own d cd cal q) (ii : Nat) (cc0 : Int) : StK p l e R s m args below meth c cells slots Q sc D cy ad A cc mL own d cd cal q (.iinc ii cc0) := by
  intro n ih pc len x y z tb tl ls st σ H locs lsA hmem hI hdg hsx hnx hL hR hS h
  obtain ⟨C0, hcr, hM, hch, hdc, hok, hAll, hfin⟩ := Y
  have C1 := C0
  obtain ⟨⟨hx, hb, hml, hown, hts⟩, hK, hF0, hF1, hN, hroom⟩ := C1
  have hwd : ∀ {pp : Nat} {w : Qw}, wdi pp w = true → goodWord (dw w) = true → (dw w).before args s = true := fun h1 h2 => hts _ (mem_good (wd_of h1) h2)
  obtain ⟨h1, h4⟩ := an hI
  obtain ⟨h1, h3⟩ := an h1
  obtain ⟨h1, h2⟩ := an h1
  have hl := beqN h1; subst hl
  have hi := beqN h2; subst hi
  have h : (match lgt ls ii with | .int v => run sc cal cd n tl (lpt ls ii (.int (v + z))) st σ | _ => none) = some q := h
  split at h
  · rename_i v hv
    obtain ⟨k, hk⟩ := lvl_at (ad := ad) hv
    exact lv_iinc (v := v + z) hx hb hdg hL.has hk (by rw [of_decide_eq_true h4]) (bltN h3) rfl (fun ls' hh => ih tl (lpt ls ii (.int (v + z))) st σ H locs ls' (pc + 3) hsx hnx (hL.of (v := .int (v + z)) (bltN h3) hh) hR hS h)
  · exact (nsm h).elim
set_option maxHeartbeats 100000 in
theorem st_iadd {q : Option Value × Sg} (Y : Hyp p l e R s m args below meth c cells slots Q sc D cy ad A cc mL own d cd cal q)  : StK p l e R s m args below meth c cells slots Q sc D cy ad A cc mL own d cd cal q (.iadd) := by
  intro n ih pc len x y z tb tl ls st σ H locs lsA hmem hI hdg hsx hnx hL hR hS h
  obtain ⟨C0, hcr, hM, hch, hdc, hok, hAll, hfin⟩ := Y
  have C1 := C0
  obtain ⟨⟨hx, hb, hml, hown, hts⟩, hK, hF0, hF1, hN, hroom⟩ := C1
  have hwd : ∀ {pp : Nat} {w : Qw}, wdi pp w = true → goodWord (dw w) = true → (dw w).before args s = true := fun h1 h2 => hts _ (mem_good (wd_of h1) h2)
  have hl := beqN hI; subst hl
  obtain ⟨a, b, r, rfl, g⟩ := b2_inv h
  replace h := g
  exact lv_iadd hx hb hdg (ih tl ls (.int (a + b) :: r) σ H locs lsA (pc + 1) hsx hnx hL hR hS h)
set_option maxHeartbeats 100000 in
theorem st_isub {q : Option Value × Sg} (Y : Hyp p l e R s m args below meth c cells slots Q sc D cy ad A cc mL own d cd cal q)  : StK p l e R s m args below meth c cells slots Q sc D cy ad A cc mL own d cd cal q (.isub) := by
  intro n ih pc len x y z tb tl ls st σ H locs lsA hmem hI hdg hsx hnx hL hR hS h
  obtain ⟨C0, hcr, hM, hch, hdc, hok, hAll, hfin⟩ := Y
  have C1 := C0
  obtain ⟨⟨hx, hb, hml, hown, hts⟩, hK, hF0, hF1, hN, hroom⟩ := C1
  have hwd : ∀ {pp : Nat} {w : Qw}, wdi pp w = true → goodWord (dw w) = true → (dw w).before args s = true := fun h1 h2 => hts _ (mem_good (wd_of h1) h2)
  have hl := beqN hI; subst hl
  obtain ⟨a, b, r, rfl, g⟩ := b2_inv h
  replace h := g
  exact lv_isub hx hb hdg (ih tl ls (.int (a - b) :: r) σ H locs lsA (pc + 1) hsx hnx hL hR hS h)
set_option maxHeartbeats 100000 in
theorem st_imul {q : Option Value × Sg} (Y : Hyp p l e R s m args below meth c cells slots Q sc D cy ad A cc mL own d cd cal q)  : StK p l e R s m args below meth c cells slots Q sc D cy ad A cc mL own d cd cal q (.imul) := by
  intro n ih pc len x y z tb tl ls st σ H locs lsA hmem hI hdg hsx hnx hL hR hS h
  obtain ⟨C0, hcr, hM, hch, hdc, hok, hAll, hfin⟩ := Y
  have C1 := C0
  obtain ⟨⟨hx, hb, hml, hown, hts⟩, hK, hF0, hF1, hN, hroom⟩ := C1
  have hwd : ∀ {pp : Nat} {w : Qw}, wdi pp w = true → goodWord (dw w) = true → (dw w).before args s = true := fun h1 h2 => hts _ (mem_good (wd_of h1) h2)
  have hl := beqN hI; subst hl
  obtain ⟨a, b, r, rfl, g⟩ := b2_inv h
  replace h := g
  exact lv_imul hx hb hdg (ih tl ls (.int (a * b) :: r) σ H locs lsA (pc + 1) hsx hnx hL hR hS h)
set_option maxHeartbeats 100000 in
theorem st_iand {q : Option Value × Sg} (Y : Hyp p l e R s m args below meth c cells slots Q sc D cy ad A cc mL own d cd cal q)  : StK p l e R s m args below meth c cells slots Q sc D cy ad A cc mL own d cd cal q (.iand) := by
  intro n ih pc len x y z tb tl ls st σ H locs lsA hmem hI hdg hsx hnx hL hR hS h
  obtain ⟨C0, hcr, hM, hch, hdc, hok, hAll, hfin⟩ := Y
  have C1 := C0
  obtain ⟨⟨hx, hb, hml, hown, hts⟩, hK, hF0, hF1, hN, hroom⟩ := C1
  have hwd : ∀ {pp : Nat} {w : Qw}, wdi pp w = true → goodWord (dw w) = true → (dw w).before args s = true := fun h1 h2 => hts _ (mem_good (wd_of h1) h2)
  have hl := beqN hI; subst hl
  obtain ⟨a, b, r, rfl, g⟩ := b2_inv h
  replace h := g
  exact lv_iand hx hb hdg (ih tl ls (.int (a &&& b) :: r) σ H locs lsA (pc + 1) hsx hnx hL hR hS h)
set_option maxHeartbeats 100000 in
theorem st_ior {q : Option Value × Sg} (Y : Hyp p l e R s m args below meth c cells slots Q sc D cy ad A cc mL own d cd cal q)  : StK p l e R s m args below meth c cells slots Q sc D cy ad A cc mL own d cd cal q (.ior) := by
  intro n ih pc len x y z tb tl ls st σ H locs lsA hmem hI hdg hsx hnx hL hR hS h
  obtain ⟨C0, hcr, hM, hch, hdc, hok, hAll, hfin⟩ := Y
  have C1 := C0
  obtain ⟨⟨hx, hb, hml, hown, hts⟩, hK, hF0, hF1, hN, hroom⟩ := C1
  have hwd : ∀ {pp : Nat} {w : Qw}, wdi pp w = true → goodWord (dw w) = true → (dw w).before args s = true := fun h1 h2 => hts _ (mem_good (wd_of h1) h2)
  have hl := beqN hI; subst hl
  obtain ⟨a, b, r, rfl, g⟩ := b2_inv h
  replace h := g
  exact lv_ior hx hb hdg (ih tl ls (.int (a ||| b) :: r) σ H locs lsA (pc + 1) hsx hnx hL hR hS h)
set_option maxHeartbeats 100000 in
theorem st_ixor {q : Option Value × Sg} (Y : Hyp p l e R s m args below meth c cells slots Q sc D cy ad A cc mL own d cd cal q)  : StK p l e R s m args below meth c cells slots Q sc D cy ad A cc mL own d cd cal q (.ixor) := by
  intro n ih pc len x y z tb tl ls st σ H locs lsA hmem hI hdg hsx hnx hL hR hS h
  obtain ⟨C0, hcr, hM, hch, hdc, hok, hAll, hfin⟩ := Y
  have C1 := C0
  obtain ⟨⟨hx, hb, hml, hown, hts⟩, hK, hF0, hF1, hN, hroom⟩ := C1
  have hwd : ∀ {pp : Nat} {w : Qw}, wdi pp w = true → goodWord (dw w) = true → (dw w).before args s = true := fun h1 h2 => hts _ (mem_good (wd_of h1) h2)
  have hl := beqN hI; subst hl
  obtain ⟨a, b, r, rfl, g⟩ := b2_inv h
  replace h := g
  exact lv_ixor hx hb hdg (ih tl ls (.int (a ^^^ b) :: r) σ H locs lsA (pc + 1) hsx hnx hL hR hS h)
set_option maxHeartbeats 100000 in
theorem st_ishl {q : Option Value × Sg} (Y : Hyp p l e R s m args below meth c cells slots Q sc D cy ad A cc mL own d cd cal q)  : StK p l e R s m args below meth c cells slots Q sc D cy ad A cc mL own d cd cal q (.ishl) := by
  intro n ih pc len x y z tb tl ls st σ H locs lsA hmem hI hdg hsx hnx hL hR hS h
  obtain ⟨C0, hcr, hM, hch, hdc, hok, hAll, hfin⟩ := Y
  have C1 := C0
  obtain ⟨⟨hx, hb, hml, hown, hts⟩, hK, hF0, hF1, hN, hroom⟩ := C1
  have hwd : ∀ {pp : Nat} {w : Qw}, wdi pp w = true → goodWord (dw w) = true → (dw w).before args s = true := fun h1 h2 => hts _ (mem_good (wd_of h1) h2)
  have hl := beqN hI; subst hl
  obtain ⟨a, b, r, rfl, g⟩ := b2_inv h
  replace h := g
  exact lv_ishl hx hb hdg (ih tl ls (.int (a <<< (b &&& 31)) :: r) σ H locs lsA (pc + 1) hsx hnx hL hR hS h)
set_option maxHeartbeats 100000 in
theorem st_ishr {q : Option Value × Sg} (Y : Hyp p l e R s m args below meth c cells slots Q sc D cy ad A cc mL own d cd cal q)  : StK p l e R s m args below meth c cells slots Q sc D cy ad A cc mL own d cd cal q (.ishr) := by
  intro n ih pc len x y z tb tl ls st σ H locs lsA hmem hI hdg hsx hnx hL hR hS h
  obtain ⟨C0, hcr, hM, hch, hdc, hok, hAll, hfin⟩ := Y
  have C1 := C0
  obtain ⟨⟨hx, hb, hml, hown, hts⟩, hK, hF0, hF1, hN, hroom⟩ := C1
  have hwd : ∀ {pp : Nat} {w : Qw}, wdi pp w = true → goodWord (dw w) = true → (dw w).before args s = true := fun h1 h2 => hts _ (mem_good (wd_of h1) h2)
  have hl := beqN hI; subst hl
  obtain ⟨a, b, r, rfl, g⟩ := b2_inv h
  replace h := g
  exact lv_ishr hx hb hdg (ih tl ls (.int (a >>> (b &&& 31)) :: r) σ H locs lsA (pc + 1) hsx hnx hL hR hS h)
set_option maxHeartbeats 100000 in
theorem st_iushr {q : Option Value × Sg} (Y : Hyp p l e R s m args below meth c cells slots Q sc D cy ad A cc mL own d cd cal q)  : StK p l e R s m args below meth c cells slots Q sc D cy ad A cc mL own d cd cal q (.iushr) := by
  intro n ih pc len x y z tb tl ls st σ H locs lsA hmem hI hdg hsx hnx hL hR hS h
  obtain ⟨C0, hcr, hM, hch, hdc, hok, hAll, hfin⟩ := Y
  have C1 := C0
  obtain ⟨⟨hx, hb, hml, hown, hts⟩, hK, hF0, hF1, hN, hroom⟩ := C1
  have hwd : ∀ {pp : Nat} {w : Qw}, wdi pp w = true → goodWord (dw w) = true → (dw w).before args s = true := fun h1 h2 => hts _ (mem_good (wd_of h1) h2)
  have hl := beqN hI; subst hl
  obtain ⟨a, b, r, rfl, g⟩ := b2_inv h
  replace h := g
  exact lv_iushr hx hb hdg rfl (ih tl ls (.int _ :: r) σ H locs lsA (pc + 1) hsx hnx hL hR hS h)
set_option maxHeartbeats 100000 in
theorem st_idiv {q : Option Value × Sg} (Y : Hyp p l e R s m args below meth c cells slots Q sc D cy ad A cc mL own d cd cal q)  : StK p l e R s m args below meth c cells slots Q sc D cy ad A cc mL own d cd cal q (.idiv) := by
  intro n ih pc len x y z tb tl ls st σ H locs lsA hmem hI hdg hsx hnx hL hR hS h
  obtain ⟨C0, hcr, hM, hch, hdc, hok, hAll, hfin⟩ := Y
  have C1 := C0
  obtain ⟨⟨hx, hb, hml, hown, hts⟩, hK, hF0, hF1, hN, hroom⟩ := C1
  have hwd : ∀ {pp : Nat} {w : Qw}, wdi pp w = true → goodWord (dw w) = true → (dw w).before args s = true := fun h1 h2 => hts _ (mem_good (wd_of h1) h2)
  have hl := beqN hI; subst hl
  obtain ⟨a, b, r, rfl, g⟩ := b2_inv h
  replace h := g
  have h : (if b = 0 then none else run sc cal cd n tl ls (.int (a / b) :: r) σ) = some q := h
  split at h
  · exact (nsm h).elim
  · rename_i hne
    have kk := ih tl ls (.int (a / b) :: r) σ H locs lsA (pc + 1) hsx hnx hL hR hS h
    exact lv_idiv hx hb hdg hne kk
set_option maxHeartbeats 100000 in
theorem st_irem {q : Option Value × Sg} (Y : Hyp p l e R s m args below meth c cells slots Q sc D cy ad A cc mL own d cd cal q)  : StK p l e R s m args below meth c cells slots Q sc D cy ad A cc mL own d cd cal q (.irem) := by
  intro n ih pc len x y z tb tl ls st σ H locs lsA hmem hI hdg hsx hnx hL hR hS h
  obtain ⟨C0, hcr, hM, hch, hdc, hok, hAll, hfin⟩ := Y
  have C1 := C0
  obtain ⟨⟨hx, hb, hml, hown, hts⟩, hK, hF0, hF1, hN, hroom⟩ := C1
  have hwd : ∀ {pp : Nat} {w : Qw}, wdi pp w = true → goodWord (dw w) = true → (dw w).before args s = true := fun h1 h2 => hts _ (mem_good (wd_of h1) h2)
  have hl := beqN hI; subst hl
  obtain ⟨a, b, r, rfl, g⟩ := b2_inv h
  replace h := g
  have h : (if b = 0 then none else run sc cal cd n tl ls (.int (a % b) :: r) σ) = some q := h
  split at h
  · exact (nsm h).elim
  · rename_i hne
    have kk := ih tl ls (.int (a % b) :: r) σ H locs lsA (pc + 1) hsx hnx hL hR hS h
    rw [← i32mod] at kk
    exact lv_irem hx hb hdg hne kk
set_option maxHeartbeats 100000 in
theorem st_ladd {q : Option Value × Sg} (Y : Hyp p l e R s m args below meth c cells slots Q sc D cy ad A cc mL own d cd cal q)  : StK p l e R s m args below meth c cells slots Q sc D cy ad A cc mL own d cd cal q (.ladd) := by
  intro n ih pc len x y z tb tl ls st σ H locs lsA hmem hI hdg hsx hnx hL hR hS h
  obtain ⟨C0, hcr, hM, hch, hdc, hok, hAll, hfin⟩ := Y
  have C1 := C0
  obtain ⟨⟨hx, hb, hml, hown, hts⟩, hK, hF0, hF1, hN, hroom⟩ := C1
  have hwd : ∀ {pp : Nat} {w : Qw}, wdi pp w = true → goodWord (dw w) = true → (dw w).before args s = true := fun h1 h2 => hts _ (mem_good (wd_of h1) h2)
  have hl := beqN hI; subst hl
  obtain ⟨a, b, r, rfl, g⟩ := l2_inv h
  replace h := g
  exact lv_ladd hx hb hdg (ih tl ls (.long (a + b) :: r) σ H locs lsA (pc + 1) hsx hnx hL hR hS h)
set_option maxHeartbeats 100000 in
theorem st_lcmp {q : Option Value × Sg} (Y : Hyp p l e R s m args below meth c cells slots Q sc D cy ad A cc mL own d cd cal q)  : StK p l e R s m args below meth c cells slots Q sc D cy ad A cc mL own d cd cal q (.lcmp) := by
  intro n ih pc len x y z tb tl ls st σ H locs lsA hmem hI hdg hsx hnx hL hR hS h
  obtain ⟨C0, hcr, hM, hch, hdc, hok, hAll, hfin⟩ := Y
  have C1 := C0
  obtain ⟨⟨hx, hb, hml, hown, hts⟩, hK, hF0, hF1, hN, hroom⟩ := C1
  have hwd : ∀ {pp : Nat} {w : Qw}, wdi pp w = true → goodWord (dw w) = true → (dw w).before args s = true := fun h1 h2 => hts _ (mem_good (wd_of h1) h2)
  have hl := beqN hI; subst hl
  obtain ⟨a, b, r, rfl, g⟩ := l2_inv h
  replace h := g
  exact W.lcmp hx hb hdg (ih tl ls (.int (lg_cmp a b) :: r) σ H locs lsA (pc + 1) hsx hnx hL hR hS h)
set_option maxHeartbeats 100000 in
theorem st_i2b {q : Option Value × Sg} (Y : Hyp p l e R s m args below meth c cells slots Q sc D cy ad A cc mL own d cd cal q)  : StK p l e R s m args below meth c cells slots Q sc D cy ad A cc mL own d cd cal q (.i2b) := by
  intro n ih pc len x y z tb tl ls st σ H locs lsA hmem hI hdg hsx hnx hL hR hS h
  obtain ⟨C0, hcr, hM, hch, hdc, hok, hAll, hfin⟩ := Y
  have C1 := C0
  obtain ⟨⟨hx, hb, hml, hown, hts⟩, hK, hF0, hF1, hN, hroom⟩ := C1
  have hwd : ∀ {pp : Nat} {w : Qw}, wdi pp w = true → goodWord (dw w) = true → (dw w).before args s = true := fun h1 h2 => hts _ (mem_good (wd_of h1) h2)
  have hl := beqN hI; subst hl
  obtain ⟨a, r, rfl, g⟩ := u1_inv h
  replace h := g
  exact lv_i2b hx hb hdg rfl (ih tl ls (.int (a.toInt8.toInt32) :: r) σ H locs lsA (pc + 1) hsx hnx hL hR hS h)
set_option maxHeartbeats 100000 in
theorem st_i2c {q : Option Value × Sg} (Y : Hyp p l e R s m args below meth c cells slots Q sc D cy ad A cc mL own d cd cal q)  : StK p l e R s m args below meth c cells slots Q sc D cy ad A cc mL own d cd cal q (.i2c) := by
  intro n ih pc len x y z tb tl ls st σ H locs lsA hmem hI hdg hsx hnx hL hR hS h
  obtain ⟨C0, hcr, hM, hch, hdc, hok, hAll, hfin⟩ := Y
  have C1 := C0
  obtain ⟨⟨hx, hb, hml, hown, hts⟩, hK, hF0, hF1, hN, hroom⟩ := C1
  have hwd : ∀ {pp : Nat} {w : Qw}, wdi pp w = true → goodWord (dw w) = true → (dw w).before args s = true := fun h1 h2 => hts _ (mem_good (wd_of h1) h2)
  have hl := beqN hI; subst hl
  obtain ⟨a, r, rfl, g⟩ := u1_inv h
  replace h := g
  exact lv_i2c hx hb hdg rfl (ih tl ls (.int ((a.toUInt32 % 65536).toInt32) :: r) σ H locs lsA (pc + 1) hsx hnx hL hR hS h)
set_option maxHeartbeats 100000 in
theorem st_dup {q : Option Value × Sg} (Y : Hyp p l e R s m args below meth c cells slots Q sc D cy ad A cc mL own d cd cal q)  : StK p l e R s m args below meth c cells slots Q sc D cy ad A cc mL own d cd cal q (.dup) := by
  intro n ih pc len x y z tb tl ls st σ H locs lsA hmem hI hdg hsx hnx hL hR hS h
  obtain ⟨C0, hcr, hM, hch, hdc, hok, hAll, hfin⟩ := Y
  have C1 := C0
  obtain ⟨⟨hx, hb, hml, hown, hts⟩, hK, hF0, hF1, hN, hroom⟩ := C1
  have hwd : ∀ {pp : Nat} {w : Qw}, wdi pp w = true → goodWord (dw w) = true → (dw w).before args s = true := fun h1 h2 => hts _ (mem_good (wd_of h1) h2)
  have hl := beqN hI; subst hl
  match st, h with
  | [], h => exact (nsm h).elim
  | v :: r, h =>
    have h : (match c1 v with | true => run sc cal cd n tl ls (v :: v :: r) σ | false => none) = some q := h
    split at h
    · rename_i e
      exact lv_dup hx hb hdg (c1_cat e) (ih tl ls (v :: v :: r) σ H locs lsA (pc + 1) hsx hnx hL hR hS h)
    · exact (nsm h).elim
set_option maxHeartbeats 100000 in
theorem st_pop {q : Option Value × Sg} (Y : Hyp p l e R s m args below meth c cells slots Q sc D cy ad A cc mL own d cd cal q)  : StK p l e R s m args below meth c cells slots Q sc D cy ad A cc mL own d cd cal q (.pop) := by
  intro n ih pc len x y z tb tl ls st σ H locs lsA hmem hI hdg hsx hnx hL hR hS h
  obtain ⟨C0, hcr, hM, hch, hdc, hok, hAll, hfin⟩ := Y
  have C1 := C0
  obtain ⟨⟨hx, hb, hml, hown, hts⟩, hK, hF0, hF1, hN, hroom⟩ := C1
  have hwd : ∀ {pp : Nat} {w : Qw}, wdi pp w = true → goodWord (dw w) = true → (dw w).before args s = true := fun h1 h2 => hts _ (mem_good (wd_of h1) h2)
  have hl := beqN hI; subst hl
  match st, h with
  | [], h => exact (nsm h).elim
  | v :: r, h =>
    have h : (match c1 v with | true => run sc cal cd n tl ls r σ | false => none) = some q := h
    split at h
    · rename_i e
      exact lv_pop hx hb hdg (c1_cat e) (ih tl ls r σ H locs lsA (pc + 1) hsx hnx hL hR hS h)
    · exact (nsm h).elim
set_option maxHeartbeats 100000 in
theorem st_dup2 {q : Option Value × Sg} (Y : Hyp p l e R s m args below meth c cells slots Q sc D cy ad A cc mL own d cd cal q)  : StK p l e R s m args below meth c cells slots Q sc D cy ad A cc mL own d cd cal q (.dup2) := by
  intro n ih pc len x y z tb tl ls st σ H locs lsA hmem hI hdg hsx hnx hL hR hS h
  obtain ⟨C0, hcr, hM, hch, hdc, hok, hAll, hfin⟩ := Y
  have C1 := C0
  obtain ⟨⟨hx, hb, hml, hown, hts⟩, hK, hF0, hF1, hN, hroom⟩ := C1
  have hwd : ∀ {pp : Nat} {w : Qw}, wdi pp w = true → goodWord (dw w) = true → (dw w).before args s = true := fun h1 h2 => hts _ (mem_good (wd_of h1) h2)
  have hl := beqN hI; subst hl
  match st, h with
  | [], h => exact (nsm h).elim
  | [_], h => exact (nsm h).elim
  | v :: w :: r, h =>
    have h : (match c1 v && c1 w with | true => run sc cal cd n tl ls (v :: w :: v :: w :: r) σ | false => none) = some q := h
    split at h
    · rename_i e
      exact lv_dup2_11 hx hb hdg (c1_cat (an e).1) (c1_cat (an e).2) (ih tl ls (v :: w :: v :: w :: r) σ H locs lsA (pc + 1) hsx hnx hL hR hS h)
    · exact (nsm h).elim
set_option maxHeartbeats 100000 in
theorem st_dup_x1 {q : Option Value × Sg} (Y : Hyp p l e R s m args below meth c cells slots Q sc D cy ad A cc mL own d cd cal q)  : StK p l e R s m args below meth c cells slots Q sc D cy ad A cc mL own d cd cal q (.dup_x1) := by
  intro n ih pc len x y z tb tl ls st σ H locs lsA hmem hI hdg hsx hnx hL hR hS h
  obtain ⟨C0, hcr, hM, hch, hdc, hok, hAll, hfin⟩ := Y
  have C1 := C0
  obtain ⟨⟨hx, hb, hml, hown, hts⟩, hK, hF0, hF1, hN, hroom⟩ := C1
  have hwd : ∀ {pp : Nat} {w : Qw}, wdi pp w = true → goodWord (dw w) = true → (dw w).before args s = true := fun h1 h2 => hts _ (mem_good (wd_of h1) h2)
  have hl := beqN hI; subst hl
  match st, h with
  | [], h => exact (nsm h).elim
  | [_], h => exact (nsm h).elim
  | v :: w :: r, h =>
    have h : (match c1 v && c1 w with | true => run sc cal cd n tl ls (v :: w :: v :: r) σ | false => none) = some q := h
    split at h
    · rename_i e
      exact lv_dup_x1 hx hb hdg (c1_cat (an e).1) (c1_cat (an e).2) (ih tl ls (v :: w :: v :: r) σ H locs lsA (pc + 1) hsx hnx hL hR hS h)
    · exact (nsm h).elim
set_option maxHeartbeats 100000 in
theorem st_goto {q : Option Value × Sg} (Y : Hyp p l e R s m args below meth c cells slots Q sc D cy ad A cc mL own d cd cal q) (off : Int) : StK p l e R s m args below meth c cells slots Q sc D cy ad A cc mL own d cd cal q (.goto off) := by
  intro n ih pc len x y z tb tl ls st σ H locs lsA hmem hI hdg hsx hnx hL hR hS h
  obtain ⟨C0, hcr, hM, hch, hdc, hok, hAll, hfin⟩ := Y
  have C1 := C0
  obtain ⟨⟨hx, hb, hml, hown, hts⟩, hK, hF0, hF1, hN, hroom⟩ := C1
  have hwd : ∀ {pp : Nat} {w : Qw}, wdi pp w = true → goodWord (dw w) = true → (dw w).before args s = true := fun h1 h2 => hts _ (mem_good (wd_of h1) h2)
  obtain ⟨h1, h2⟩ := an hI
  have hl := beqN h1; subst hl
  exact lv_goto hx hb hdg (of_decide_eq_true h2) (goJ ih x ls st σ H locs lsA hL hR hS h)
set_option maxHeartbeats 100000 in
theorem st_if_icmp {q : Option Value × Sg} (Y : Hyp p l e R s m args below meth c cells slots Q sc D cy ad A cc mL own d cd cal q) (cond : ClassFile.Cond) (off : Int) : StK p l e R s m args below meth c cells slots Q sc D cy ad A cc mL own d cd cal q (.if_icmp cond off) := by
  intro n ih pc len x y z tb tl ls st σ H locs lsA hmem hI hdg hsx hnx hL hR hS h
  obtain ⟨C0, hcr, hM, hch, hdc, hok, hAll, hfin⟩ := Y
  have C1 := C0
  obtain ⟨⟨hx, hb, hml, hown, hts⟩, hK, hF0, hF1, hN, hroom⟩ := C1
  have hwd : ∀ {pp : Nat} {w : Qw}, wdi pp w = true → goodWord (dw w) = true → (dw w).before args s = true := fun h1 h2 => hts _ (mem_good (wd_of h1) h2)
  obtain ⟨h1, h2⟩ := an hI
  have hl := beqN h1; subst hl
  have ht : (pc : Int) + off = (x : Int) := of_decide_eq_true h2
  cases cond
  case eq =>
    obtain ⟨a, b, r, rfl, g⟩ := b2_inv h
    replace h := g
    exact lv_icmp_eq hx hb hdg ht (fun c1 => goJ ih x ls r σ H locs lsA hL hR hS (by rwa [if_pos c1] at h)) (fun c1 => ih tl ls r σ H locs lsA (pc + 3) hsx hnx hL hR hS (by rwa [if_neg c1] at h))
  case ne =>
    obtain ⟨a, b, r, rfl, g⟩ := b2_inv h
    replace h := g
    exact lv_icmp_ne hx hb hdg ht (fun c1 => goJ ih x ls r σ H locs lsA hL hR hS (by rwa [if_neg c1] at h)) (fun c1 => ih tl ls r σ H locs lsA (pc + 3) hsx hnx hL hR hS (by rwa [if_pos c1] at h))
  case lt =>
    obtain ⟨a, b, r, rfl, g⟩ := b2_inv h
    replace h := g
    exact lv_icmp_lt hx hb hdg ht (fun c1 => goJ ih x ls r σ H locs lsA hL hR hS (by rwa [if_pos c1] at h)) (fun c1 => ih tl ls r σ H locs lsA (pc + 3) hsx hnx hL hR hS (by rwa [if_neg c1] at h))
  case ge =>
    obtain ⟨a, b, r, rfl, g⟩ := b2_inv h
    replace h := g
    exact lv_icmp_ge hx hb hdg ht (fun c1 => goJ ih x ls r σ H locs lsA hL hR hS (by rwa [if_neg (Int32.not_lt.mpr c1)] at h)) (fun c1 => ih tl ls r σ H locs lsA (pc + 3) hsx hnx hL hR hS (by rwa [if_pos (Int32.not_le.mp c1)] at h))
  case gt =>
    obtain ⟨a, b, r, rfl, g⟩ := b2_inv h
    replace h := g
    exact lv_icmp_gt hx hb hdg ht (fun c1 => goJ ih x ls r σ H locs lsA hL hR hS (by rwa [if_pos c1] at h)) (fun c1 => ih tl ls r σ H locs lsA (pc + 3) hsx hnx hL hR hS (by rwa [if_neg c1] at h))
  case le =>
    obtain ⟨a, b, r, rfl, g⟩ := b2_inv h
    replace h := g
    exact lv_icmp_le hx hb hdg ht (fun c1 => goJ ih x ls r σ H locs lsA hL hR hS (by rwa [if_neg (Int32.not_lt.mpr c1)] at h)) (fun c1 => ih tl ls r σ H locs lsA (pc + 3) hsx hnx hL hR hS (by rwa [if_pos (Int32.not_le.mp c1)] at h))
set_option maxHeartbeats 100000 in
theorem st_ifCond {q : Option Value × Sg} (Y : Hyp p l e R s m args below meth c cells slots Q sc D cy ad A cc mL own d cd cal q) (cond : ClassFile.Cond) (off : Int) : StK p l e R s m args below meth c cells slots Q sc D cy ad A cc mL own d cd cal q (.ifCond cond off) := by
  intro n ih pc len x y z tb tl ls st σ H locs lsA hmem hI hdg hsx hnx hL hR hS h
  obtain ⟨C0, hcr, hM, hch, hdc, hok, hAll, hfin⟩ := Y
  have C1 := C0
  obtain ⟨⟨hx, hb, hml, hown, hts⟩, hK, hF0, hF1, hN, hroom⟩ := C1
  have hwd : ∀ {pp : Nat} {w : Qw}, wdi pp w = true → goodWord (dw w) = true → (dw w).before args s = true := fun h1 h2 => hts _ (mem_good (wd_of h1) h2)
  obtain ⟨h1, h2⟩ := an hI
  have hl := beqN h1; subst hl
  have ht : (pc : Int) + off = (x : Int) := of_decide_eq_true h2
  cases cond
  case eq =>
    obtain ⟨a, r, rfl, g⟩ := u1_inv h
    replace h := g
    exact lv_if_eq hx hb hdg ht (fun c1 => goJ ih x ls r σ H locs lsA hL hR hS (by rwa [if_pos c1] at h)) (fun c1 => ih tl ls r σ H locs lsA (pc + 3) hsx hnx hL hR hS (by rwa [if_neg c1] at h))
  case ne =>
    obtain ⟨a, r, rfl, g⟩ := u1_inv h
    replace h := g
    exact lv_if_ne hx hb hdg ht (fun c1 => goJ ih x ls r σ H locs lsA hL hR hS (by rwa [if_neg c1] at h)) (fun c1 => ih tl ls r σ H locs lsA (pc + 3) hsx hnx hL hR hS (by rwa [if_pos c1] at h))
  case lt =>
    obtain ⟨a, r, rfl, g⟩ := u1_inv h
    replace h := g
    exact lv_if_lt hx hb hdg ht (fun c1 => goJ ih x ls r σ H locs lsA hL hR hS (by rwa [if_pos c1] at h)) (fun c1 => ih tl ls r σ H locs lsA (pc + 3) hsx hnx hL hR hS (by rwa [if_neg c1] at h))
  case ge =>
    obtain ⟨a, r, rfl, g⟩ := u1_inv h
    replace h := g
    exact lv_if_ge hx hb hdg ht (fun c1 => goJ ih x ls r σ H locs lsA hL hR hS (by rwa [if_neg (Int32.not_lt.mpr c1)] at h)) (fun c1 => ih tl ls r σ H locs lsA (pc + 3) hsx hnx hL hR hS (by rwa [if_pos (Int32.not_le.mp c1)] at h))
  case gt =>
    obtain ⟨a, r, rfl, g⟩ := u1_inv h
    replace h := g
    exact lv_if_gt hx hb hdg ht (fun c1 => goJ ih x ls r σ H locs lsA hL hR hS (by rwa [if_pos c1] at h)) (fun c1 => ih tl ls r σ H locs lsA (pc + 3) hsx hnx hL hR hS (by rwa [if_neg c1] at h))
  case le =>
    obtain ⟨a, r, rfl, g⟩ := u1_inv h
    replace h := g
    exact lv_if_le hx hb hdg ht (fun c1 => goJ ih x ls r σ H locs lsA hL hR hS (by rwa [if_neg (Int32.not_lt.mpr c1)] at h)) (fun c1 => ih tl ls r σ H locs lsA (pc + 3) hsx hnx hL hR hS (by rwa [if_pos (Int32.not_le.mp c1)] at h))
set_option maxHeartbeats 100000 in
theorem st_tableswitch {q : Option Value × Sg} (Y : Hyp p l e R s m args below meth c cells slots Q sc D cy ad A cc mL own d cd cal q) (df : Int) (lo : Int) (hi : Int) (offs : Array Int) : StK p l e R s m args below meth c cells slots Q sc D cy ad A cc mL own d cd cal q (.tableswitch df lo hi offs) := by
  intro n ih pc len x y z tb tl ls st σ H locs lsA hmem hI hdg hsx hnx hL hR hS h
  obtain ⟨C0, hcr, hM, hch, hdc, hok, hAll, hfin⟩ := Y
  have C1 := C0
  obtain ⟨⟨hx, hb, hml, hown, hts⟩, hK, hF0, hF1, hN, hroom⟩ := C1
  have hwd : ∀ {pp : Nat} {w : Qw}, wdi pp w = true → goodWord (dw w) = true → (dw w).before args s = true := fun h1 h2 => hts _ (mem_good (wd_of h1) h2)
  obtain ⟨h1, h5⟩ := an hI
  obtain ⟨h1, h4⟩ := an h1
  obtain ⟨h1, h3⟩ := an h1
  obtain ⟨h1, h2⟩ := an h1
  have ht : (pc : Int) + df = (x : Int) := of_decide_eq_true h1
  have htb := of_decide_eq_true h2
  have hhi := of_decide_eq_true h3
  obtain ⟨hlo, hhi2⟩ := of_decide_eq_true h5
  obtain ⟨a, r, rfl, g⟩ := u1_inv h
  replace h := g
  rcases sw_inv h with ⟨k, t, g1, g2, g3⟩ | ⟨g1, g2⟩
  · rw [htb, tbOf_at] at g1
    cases ho : offs.toList[k]? with
    | none => rw [ho] at g1; cases g1
    | some off =>
      rw [ho] at g1
      have g4 := Option.some.inj g1
      have ga : Int32.ofInt (lo + k) = a := congrArg Prod.fst g4
      have gt : ((pc : Int) + off).toNat = t := congrArg Prod.snd g4
      have hkl : k < offs.toList.length := (List.getElem?_eq_some_iff.mp ho).1
      rw [Array.length_toList] at hkl
      have hpos := of_decide_eq_true (List.all_eq_true.mp h4 off (List.mem_of_getElem? ho))
      have hai : a.toInt = lo + k := by rw [← ga]; exact toInt_small (by omega) (by omega)
      refine lv_tableIn (off := off) (tgt := t) hx hb hdg (by omega) (by omega) ?_ (by omega) (goJ ih t ls r σ H locs lsA hL hR hS g3)
      rw [hai, show (lo + (k : Int) - lo).toNat = k by omega, ← Array.getElem?_toList]
      exact ho
  · refine lv_tableOut hx hb hdg ?_ ht (goJ ih x ls r σ H locs lsA hL hR hS g2)
    rcases Int.lt_or_le a.toInt lo with w1 | w1
    · exact Or.inl w1
    rcases Int.lt_or_le hi a.toInt with w2 | w2
    · exact Or.inr w2
    exfalso
    have hk : (a.toInt - lo).toNat < offs.toList.length := by rw [Array.length_toList]; omega
    have e1 : tb[(a.toInt - lo).toNat]? = some (Int32.ofInt (lo + ((a.toInt - lo).toNat : Nat)), ((pc : Int) + offs.toList[(a.toInt - lo).toNat]).toNat) := by
      rw [htb, tbOf_at, List.getElem?_eq_getElem hk]; rfl
    refine g1 _ (List.mem_of_getElem? e1) ?_
    show Int32.ofInt _ = a
    rw [show lo + (((a.toInt - lo).toNat : Nat) : Int) = a.toInt by omega]
    exact Int32.ofInt_toInt a
set_option maxHeartbeats 100000 in
theorem st_lookupswitch {q : Option Value × Sg} (Y : Hyp p l e R s m args below meth c cells slots Q sc D cy ad A cc mL own d cd cal q) (df : Int) (ps : Array (Int × Int)) : StK p l e R s m args below meth c cells slots Q sc D cy ad A cc mL own d cd cal q (.lookupswitch df ps) := by
  intro n ih pc len x y z tb tl ls st σ H locs lsA hmem hI hdg hsx hnx hL hR hS h
  obtain ⟨C0, hcr, hM, hch, hdc, hok, hAll, hfin⟩ := Y
  have C1 := C0
  obtain ⟨⟨hx, hb, hml, hown, hts⟩, hK, hF0, hF1, hN, hroom⟩ := C1
  have hwd : ∀ {pp : Nat} {w : Qw}, wdi pp w = true → goodWord (dw w) = true → (dw w).before args s = true := fun h1 h2 => hts _ (mem_good (wd_of h1) h2)
  obtain ⟨h1, h5⟩ := an hI
  obtain ⟨h1, h4⟩ := an h1
  obtain ⟨h1, h2⟩ := an h1
  have ht : (pc : Int) + df = (x : Int) := of_decide_eq_true h1
  have htb := of_decide_eq_true h2
  obtain ⟨a, r, rfl, g⟩ := u1_inv h
  replace h := g
  have key : ∀ (ls0 : List (Int × Int)) (g : Nat → Rs), (∀ w ∈ ls0, 0 ≤ (pc : Int) + w.2 ∧ -1000 ≤ w.1 ∧ w.1 < 1000) → sw a g (g x) (lkOf pc ls0) = some q → ∃ t : Nat, (pc : Int) + Op.lookupswitch.offset ls0 df a.toInt = (t : Int) ∧ g t = some q := by
    intro ls0 g hls hg
    induction ls0 with
    | nil => exact ⟨x, ht, hg⟩
    | cons w t0 ihl =>
      obtain ⟨w1, w2⟩ := w
      have hw := hls _ List.mem_cons_self
      have hg : (if a = Int32.ofInt w1 then g ((pc : Int) + w2).toNat else sw a g (g x) (lkOf pc t0)) = some q := hg
      rw [Op.lookupswitch.offset_cons]
      by_cases e1 : a = Int32.ofInt w1
      · rw [if_pos e1] at hg
        rw [if_pos (by rw [e1, toInt_small (by omega) (by omega)])]
        exact ⟨_, by have := hw.1; simp only at this; omega, hg⟩
      · rw [if_neg e1] at hg
        rw [if_neg (fun e2 => e1 (by rw [e2]; exact (Int32.ofInt_toInt a).symm))]
        exact ihl (fun w hw => hls w (List.mem_cons_of_mem _ hw)) hg
  have hall : ∀ w ∈ ps.toList, 0 ≤ (pc : Int) + w.2 ∧ -1000 ≤ w.1 ∧ w.1 < 1000 := fun w hw => of_decide_eq_true (List.all_eq_true.mp h5 w hw)
  rw [htb] at h
  obtain ⟨t, t1, t2⟩ := key ps.toList (fun t => run sc cal cd n (jmp cd t) ls r σ) hall h
  exact lv_lookup (tgt := t) hx hb hdg h4 rfl t1 (goJ ih t ls r σ H locs lsA hL hR hS t2)
set_option maxHeartbeats 100000 in
theorem st_getfield {q : Option Value × Sg} (Y : Hyp p l e R s m args below meth c cells slots Q sc D cy ad A cc mL own d cd cal q) (ii : Nat) : StK p l e R s m args below meth c cells slots Q sc D cy ad A cc mL own d cd cal q (.getfield ii) := by
  intro n ih pc len x y z tb tl ls st σ H locs lsA hmem hI hdg hsx hnx hL hR hS h
  obtain ⟨C0, hcr, hM, hch, hdc, hok, hAll, hfin⟩ := Y
  have C1 := C0
  obtain ⟨⟨hx, hb, hml, hown, hts⟩, hK, hF0, hF1, hN, hroom⟩ := C1
  have hwd : ∀ {pp : Nat} {w : Qw}, wdi pp w = true → goodWord (dw w) = true → (dw w).before args s = true := fun h1 h2 => hts _ (mem_good (wd_of h1) h2)
  obtain ⟨h1, h4⟩ := an hI
  obtain ⟨h1, h3⟩ := an h1
  obtain ⟨h1, h2⟩ := an h1
  have hl := beqN h1; subst hl
  have hx12 := bltN h2
  have hyn := bltN h3
  obtain ⟨a, r, rfl, g⟩ := ra_inv h
  replace h := g
  have hlk : (Cond.fieldLink (ocl own) ii (kT x y).1 (kT x y).2.1 (kT x y).2.2.1).before args s = true := by
    have h5 := hwd h4 rfl
    have n1 := nf_lt x hx12
    have e1 : (x * 100 + y) / 100 = x := by omega
    have e2 : (x * 100 + y) % 100 = y := by omega
    have h6 : (Cond.fieldLink (ocl own) ii (fnm ((x * 100 + y) / 100) ((x * 100 + y) % 100)).1 (fnm ((x * 100 + y) / 100) ((x * 100 + y) % 100)).2.1 (fnm ((x * 100 + y) / 100) ((x * 100 + y) % 100)).2.2.1).before args s = true := h5
    rw [e1, e2, fnm_kT] at h6
    exact h6
  have get : ∀ v : Value, (SH a).1 = x → fdV ad σ a x y = v → W p l e R s m args below meth c H locs cells slots Q (F0 m (pc + 3) lsA (v :: r.map (tr ad))) → W p l e R s m args below meth c H locs cells slots Q (F0 m pc lsA ((Value.ref a :: r).map (tr ad))) :=
    fun v hk hv kk => va_get (D := D) (cl := vwCl) (tys := tyA cy) (ws := wsA cy ad σ) (C := ocl x) (T := kT x) (N := nf x) (Ts := TBg) hx hb hts (uws_in x hx12) hown hK hR.1 (a - 4) (at_obj hk hx12) (vw_at x hx12) y hyn hlk (fun _ h9 => h9) (by rw [fdV_at hyn, hv]) hdg kk
  have hfk : ∀ k, fk x y = k → (match k with
    | 0 => gfI x a y σ fun v => run sc cal cd n tl ls (.int v :: r) σ
    | 1 => gfS x a y fun v => run sc cal cd n tl ls (.ref v :: r) σ
    | 2 => gfD x a y σ fun v => run sc cal cd n tl ls (.ref v :: r) σ
    | 3 => gfI x a y σ fun v => run sc cal cd n tl ls (.int v :: r) σ
    | _ => none) = some q := fun k hk => by subst hk; exact h
  match hk : fk x y with
  | 0 =>
    obtain ⟨k0, h⟩ := gd_inv (show gdK x a (run sc cal cd n tl ls (.int (σ.1 a y) :: r) σ) = some q from hfk 0 hk)
    exact get (.int (σ.1 a y)) k0 (by unfold fdV; rw [hk]; rfl) (ih tl ls (.int (σ.1 a y) :: r) σ H locs lsA (pc + 3) hsx hnx hL hR hS h)
  | 1 =>
    obtain ⟨k0, h⟩ := gd_inv (show gdK x a (run sc cal cd n tl ls (.ref (a + ofs x y) :: r) σ) = some q from hfk 1 hk)
    exact get (.ref (ad (a + ofs x y))) k0 (by unfold fdV; rw [hk]; rfl) (ih tl ls (.ref (a + ofs x y) :: r) σ H locs lsA (pc + 3) hsx hnx hL hR hS h)
  | 2 =>
    obtain ⟨k0, h⟩ := gd_inv (show gdK x a (run sc cal cd n tl ls (.ref (σ.2.2 a y) :: r) σ) = some q from hfk 2 hk)
    exact get (.ref (ad (σ.2.2 a y))) k0 (by unfold fdV; rw [hk]; rfl) (ih tl ls (.ref (σ.2.2 a y) :: r) σ H locs lsA (pc + 3) hsx hnx hL hR hS h)
  | 3 =>
    obtain ⟨k0, h⟩ := gd_inv (show gdK x a (run sc cal cd n tl ls (.int (σ.1 a y) :: r) σ) = some q from hfk 3 hk)
    exact get (.int (σ.1 a y)) k0 (by unfold fdV; rw [hk]; rfl) (ih tl ls (.int (σ.1 a y) :: r) σ H locs lsA (pc + 3) hsx hnx hL hR hS h)
  | k + 4 => exact (nsm (hfk (k + 4) hk)).elim
set_option maxHeartbeats 100000 in
theorem st_putfield {q : Option Value × Sg} (Y : Hyp p l e R s m args below meth c cells slots Q sc D cy ad A cc mL own d cd cal q) (ii : Nat) : StK p l e R s m args below meth c cells slots Q sc D cy ad A cc mL own d cd cal q (.putfield ii) := by
  intro n ih pc len x y z tb tl ls st σ H locs lsA hmem hI hdg hsx hnx hL hR hS h
  obtain ⟨C0, hcr, hM, hch, hdc, hok, hAll, hfin⟩ := Y
  have C1 := C0
  obtain ⟨⟨hx, hb, hml, hown, hts⟩, hK, hF0, hF1, hN, hroom⟩ := C1
  have hwd : ∀ {pp : Nat} {w : Qw}, wdi pp w = true → goodWord (dw w) = true → (dw w).before args s = true := fun h1 h2 => hts _ (mem_good (wd_of h1) h2)
  obtain ⟨h1, h4⟩ := an hI
  obtain ⟨h1, h3⟩ := an h1
  obtain ⟨h1, h2⟩ := an h1
  have hl := beqN h1; subst hl
  have hx12 := bltN h2
  have hyn := bltN h3
  have hlk : (Cond.fieldLink (ocl own) ii (kT x y).1 (kT x y).2.1 (kT x y).2.2.1).before args s = true := by
    have h5 := hwd h4 rfl
    have n1 := nf_lt x hx12
    have e1 : (x * 100 + y) / 100 = x := by omega
    have e2 : (x * 100 + y) % 100 = y := by omega
    have h6 : (Cond.fieldLink (ocl own) ii (fnm ((x * 100 + y) / 100) ((x * 100 + y) % 100)).1 (fnm ((x * 100 + y) / 100) ((x * 100 + y) % 100)).2.1 (fnm ((x * 100 + y) / 100) ((x * 100 + y) % 100)).2.2.1).before args s = true := h5
    rw [e1, e2, fnm_kT] at h6
    exact h6
  have hfo := fk_ok x hx12 y hyn
  have put : ∀ (a : Nat) (v : Value) (r : List Value), (SH a).1 = x → (kT x y).2.2.2 = false → narrow (kY x y) v = v → fits (kY x y) v = true →
      (∀ (H1 : Heap) (locs1 : List Loc), va_P D vwCl ((wsA cy ad σ).set (a - 4) (ad a, .inr (x, ((List.range (nf x)).map (fdV ad σ a x)).set y v))) H1 → va_D A ((wsA cy ad σ).set (a - 4) (ad a, .inr (x, ((List.range (nf x)).map (fdV ad σ a x)).set y v))) → va_S A s.heap H1 locs1 →
        W p l e R s m args below meth c H1 locs1 cells slots Q (F0 m (pc + 3) lsA (r.map (tr ad)))) → W p l e R s m args below meth c H locs cells slots Q (F0 m pc lsA (v :: .ref (ad a) :: r.map (tr ad))) :=
    fun a v r hk hfi hn hft kk => va_put (D := D) (cl := vwCl) (tys := tyA cy) (ws := wsA cy ad σ) (H0 := s.heap) (C := ocl x) (T := kT x) (N := nf x) (Ts := TBg) hx hb hts (uws_in x hx12) (kY x) (kY_ok x hx12) (kN_ok x hx12) hown hK hR.1 hR.2 hS (a - 4) (at_obj hk hx12) (vw_at x hx12) y hyn hlk (fun _ h9 => h9) hfi (kY_ok x hx12 y hyn) hn hft (by simpa using hyn) hdg kk
  match st, h with
  | [], h => exact (nsm h).elim
  | [.int _], h => exact (nsm h).elim
  | [.ref _], h => exact (nsm h).elim
  | .int v :: .ref a :: r, h =>
    have hfk : ∀ k, fk x y = k → (match k with
      | 0 => pfI x a y v σ fun σ => run sc cal cd n tl ls r σ
      | 3 => pfZ x a y v σ fun σ => run sc cal cd n tl ls r σ
      | _ => none) = some q := fun k hk => by subst hk; exact h
    match hk : fk x y with
    | 0 =>
      obtain ⟨k0, h⟩ := gd_inv (show gdK x a (run sc cal cd n tl ls r (sI σ a y v)) = some q from hfk 0 hk)
      rw [hk] at hfo
      obtain ⟨f1, f2⟩ := an hfo
      have f1 := of_decide_eq_true f1
      refine put a (.int v) r k0 (by simpa using f2) (by rw [f1]; rfl) (by rw [f1]; rfl) (fun H1 locs1 hP1 hD1 hS1 => ?_)
      rw [set_pI k0 hx12 (by rw [hk]; decide) (by rw [hk]; decide)] at hP1 hD1
      exact ih tl ls r _ H1 locs1 lsA (pc + 3) hsx hnx hL ⟨hP1, hD1⟩ hS1 h
    | 1 => exact (nsm (hfk 1 hk)).elim
    | 2 => exact (nsm (hfk 2 hk)).elim
    | 3 =>
      obtain ⟨k0, h⟩ := gd_inv (show gdK x a (if v = 0 ∨ v = 1 then run sc cal cd n tl ls r (sI σ a y v) else none) = some q from hfk 3 hk)
      split at h
      · rename_i hv
        rw [hk] at hfo
        obtain ⟨f1, f2⟩ := an hfo
        have f1 := of_decide_eq_true f1
        refine put a (.int v) r k0 (by simpa using f2) (by rw [f1]; rcases hv with rfl | rfl <;> rfl) (by rw [f1]; rcases hv with rfl | rfl <;> rfl) (fun H1 locs1 hP1 hD1 hS1 => ?_)
        rw [set_pI k0 hx12 (by rw [hk]; decide) (by rw [hk]; decide)] at hP1 hD1
        exact ih tl ls r _ H1 locs1 lsA (pc + 3) hsx hnx hL ⟨hP1, hD1⟩ hS1 h
      · exact (nsm h).elim
    | k + 4 => exact (nsm (hfk (k + 4) hk)).elim
  | .ref v :: .ref a :: r, h =>
    have hfk : ∀ k, fk x y = k → (match k with
      | 2 => pfD x a y v σ fun σ => run sc cal cd n tl ls r σ
      | _ => none) = some q := fun k hk => by subst hk; exact h
    match hk : fk x y with
    | 0 => exact (nsm (hfk 0 hk)).elim
    | 1 => exact (nsm (hfk 1 hk)).elim
    | 2 =>
      obtain ⟨k0, h⟩ := gd_inv (show gdK x a (run sc cal cd n tl ls r (sR σ a y v)) = some q from hfk 2 hk)
      rw [hk] at hfo
      obtain ⟨f1, f2⟩ := an hfo
      have f3 : narrow (kY x y) (.ref (ad v)) = .ref (ad v) ∧ fits (kY x y) (.ref (ad v)) = true := by
        cases hty : kY x y <;> rw [hty] at f1 <;> first | exact ⟨rfl, rfl⟩ | exact absurd (show false = true from f1) (by decide)
      refine put a (.ref (ad v)) r k0 (by simpa using f2) f3.1 f3.2 (fun H1 locs1 hP1 hD1 hS1 => ?_)
      rw [set_pR k0 hx12 hk] at hP1 hD1
      exact ih tl ls r _ H1 locs1 lsA (pc + 3) hsx hnx hL ⟨hP1, hD1⟩ hS1 h
    | k + 3 => exact (nsm (hfk (k + 3) hk)).elim
  | .int _ :: .int _ :: _, h => exact (nsm h).elim
  | .int _ :: .long _ :: _, h => exact (nsm h).elim
  | .int _ :: .float _ :: _, h => exact (nsm h).elim
  | .int _ :: .double _ :: _, h => exact (nsm h).elim
  | .int _ :: .null :: _, h => exact (nsm h).elim
  | .int _ :: .retAddr _ :: _, h => exact (nsm h).elim
  | .ref _ :: .int _ :: _, h => exact (nsm h).elim
  | .ref _ :: .long _ :: _, h => exact (nsm h).elim
  | .ref _ :: .float _ :: _, h => exact (nsm h).elim
  | .ref _ :: .double _ :: _, h => exact (nsm h).elim
  | .ref _ :: .null :: _, h => exact (nsm h).elim
  | .ref _ :: .retAddr _ :: _, h => exact (nsm h).elim
  | .long _ :: _, h => exact (nsm h).elim
  | .float _ :: _, h => exact (nsm h).elim
  | .double _ :: _, h => exact (nsm h).elim
  | .null :: _, h => exact (nsm h).elim
  | .retAddr _ :: _, h => exact (nsm h).elim
set_option maxHeartbeats 100000 in
theorem st_iaload {q : Option Value × Sg} (Y : Hyp p l e R s m args below meth c cells slots Q sc D cy ad A cc mL own d cd cal q)  : StK p l e R s m args below meth c cells slots Q sc D cy ad A cc mL own d cd cal q (.iaload) := by
  intro n ih pc len x y z tb tl ls st σ H locs lsA hmem hI hdg hsx hnx hL hR hS h
  obtain ⟨C0, hcr, hM, hch, hdc, hok, hAll, hfin⟩ := Y
  have C1 := C0
  obtain ⟨⟨hx, hb, hml, hown, hts⟩, hK, hF0, hF1, hN, hroom⟩ := C1
  have hwd : ∀ {pp : Nat} {w : Qw}, wdi pp w = true → goodWord (dw w) = true → (dw w).before args s = true := fun h1 h2 => hts _ (mem_good (wd_of h1) h2)
  have hl := beqN hI; subst hl
  obtain ⟨a, i, r, rfl, g⟩ := rai_inv h
  replace h := g
  unfold ldX at h
  split at h
  · rename_i k0
    have k0 := beqN k0
    obtain ⟨hin, h⟩ := bnd_inv h
    exact va_iald (tys := tyA cy) hx hb hK hR.1 (a - 4) 2 (at_int k0 (.inr (.inr rfl))) rfl hin hdg (ih tl ls (.int (σ.1 a (ix i)) :: r) σ H locs lsA (pc + 1) hsx hnx hL hR hS h)
  · split at h
    · rename_i k0
      have k1 := SH_17 a k0
      subst k1
      obtain ⟨hin, h⟩ := bnd_inv h
      exact va_ti (N := 7) hx hb hF0.2.1 hS hin rfl hdg (ih tl ls (.int (FC 2 (ix i)) :: r) σ H locs lsA (pc + 1) hsx hnx hL hR hS h)
    · split at h
      · rename_i k0
        have k1 := SH_16 a k0
        subst k1
        obtain ⟨hin, h⟩ := bnd_inv h
        rcases hF1 with hF1 | hF1
        · rw [hF1] at hin
          exact absurd (Or.inr (Nat.zero_le _)) hin
        · exact va_ti (N := sc.1 - 1) hx hb hF1 hS hin rfl hdg (ih tl ls (.int (sc.2 (ix i)) :: r) σ H locs lsA (pc + 1) hsx hnx hL hR hS h)
      · exact (nsm h).elim
set_option maxHeartbeats 100000 in
theorem st_caload {q : Option Value × Sg} (Y : Hyp p l e R s m args below meth c cells slots Q sc D cy ad A cc mL own d cd cal q)  : StK p l e R s m args below meth c cells slots Q sc D cy ad A cc mL own d cd cal q (.caload) := by
  intro n ih pc len x y z tb tl ls st σ H locs lsA hmem hI hdg hsx hnx hL hR hS h
  obtain ⟨C0, hcr, hM, hch, hdc, hok, hAll, hfin⟩ := Y
  have C1 := C0
  obtain ⟨⟨hx, hb, hml, hown, hts⟩, hK, hF0, hF1, hN, hroom⟩ := C1
  have hwd : ∀ {pp : Nat} {w : Qw}, wdi pp w = true → goodWord (dw w) = true → (dw w).before args s = true := fun h1 h2 => hts _ (mem_good (wd_of h1) h2)
  have hl := beqN hI; subst hl
  obtain ⟨a, i, r, rfl, g⟩ := rai_inv h
  replace h := g
  unfold ldC at h
  split at h
  · rename_i k0
    have k0 := beqN k0
    obtain ⟨hin, h⟩ := bnd_inv h
    exact va_cald (tys := tyA cy) hx hb hK hR.1 (a - 4) 1 (at_int k0 (.inr (.inl rfl))) rfl hin hdg (ih tl ls (.int (σ.1 a (ix i)) :: r) σ H locs lsA (pc + 1) hsx hnx hL hR hS h)
  · split at h
    · rename_i k0
      obtain ⟨hin, h⟩ := bnd_inv h
      rcases SH_18 a k0 with k1 | k1
      · subst k1
        exact va_tc (N := 8) hx hb hF0.1 hS hin rfl hdg (ih tl ls (.int (FC 1 (ix i)) :: r) σ H locs lsA (pc + 1) hsx hnx hL hR hS h)
      · subst k1
        exact va_tc (N := 8) hx hb hF0.2.2.1 hS hin rfl hdg (ih tl ls (.int (FC 3 (ix i)) :: r) σ H locs lsA (pc + 1) hsx hnx hL hR hS h)
    · exact (nsm h).elim
set_option maxHeartbeats 100000 in
theorem st_baload {q : Option Value × Sg} (Y : Hyp p l e R s m args below meth c cells slots Q sc D cy ad A cc mL own d cd cal q)  : StK p l e R s m args below meth c cells slots Q sc D cy ad A cc mL own d cd cal q (.baload) := by
  intro n ih pc len x y z tb tl ls st σ H locs lsA hmem hI hdg hsx hnx hL hR hS h
  obtain ⟨C0, hcr, hM, hch, hdc, hok, hAll, hfin⟩ := Y
  have C1 := C0
  obtain ⟨⟨hx, hb, hml, hown, hts⟩, hK, hF0, hF1, hN, hroom⟩ := C1
  have hwd : ∀ {pp : Nat} {w : Qw}, wdi pp w = true → goodWord (dw w) = true → (dw w).before args s = true := fun h1 h2 => hts _ (mem_good (wd_of h1) h2)
  have hl := beqN hI; subst hl
  obtain ⟨a, i, r, rfl, g⟩ := rai_inv h
  replace h := g
  obtain ⟨k0, h⟩ := gd_inv h
  obtain ⟨hin, h⟩ := bnd_inv h
  exact va_bald (tys := tyA cy) hx hb hK hR.1 (a - 4) 0 (at_int k0 (.inl rfl)) rfl hin hdg (ih tl ls (.int (σ.1 a (ix i)) :: r) σ H locs lsA (pc + 1) hsx hnx hL hR hS h)
set_option maxHeartbeats 100000 in
theorem st_laload {q : Option Value × Sg} (Y : Hyp p l e R s m args below meth c cells slots Q sc D cy ad A cc mL own d cd cal q)  : StK p l e R s m args below meth c cells slots Q sc D cy ad A cc mL own d cd cal q (.laload) := by
  intro n ih pc len x y z tb tl ls st σ H locs lsA hmem hI hdg hsx hnx hL hR hS h
  obtain ⟨C0, hcr, hM, hch, hdc, hok, hAll, hfin⟩ := Y
  have C1 := C0
  obtain ⟨⟨hx, hb, hml, hown, hts⟩, hK, hF0, hF1, hN, hroom⟩ := C1
  have hwd : ∀ {pp : Nat} {w : Qw}, wdi pp w = true → goodWord (dw w) = true → (dw w).before args s = true := fun h1 h2 => hts _ (mem_good (wd_of h1) h2)
  have hl := beqN hI; subst hl
  obtain ⟨a, i, r, rfl, g⟩ := rai_inv h
  replace h := g
  obtain ⟨k0, h⟩ := gd_inv h
  obtain ⟨hin, h⟩ := bnd_inv h
  exact va_lald (tys := tyA cy) hx hb hK hR.1 (a - 4) 3 (at_long k0) rfl hin hdg (ih tl ls (.long (σ.2.1 a (ix i)) :: r) σ H locs lsA (pc + 1) hsx hnx hL hR hS h)
set_option maxHeartbeats 100000 in
theorem st_iastore {q : Option Value × Sg} (Y : Hyp p l e R s m args below meth c cells slots Q sc D cy ad A cc mL own d cd cal q)  : StK p l e R s m args below meth c cells slots Q sc D cy ad A cc mL own d cd cal q (.iastore) := by
  intro n ih pc len x y z tb tl ls st σ H locs lsA hmem hI hdg hsx hnx hL hR hS h
  obtain ⟨C0, hcr, hM, hch, hdc, hok, hAll, hfin⟩ := Y
  have C1 := C0
  obtain ⟨⟨hx, hb, hml, hown, hts⟩, hK, hF0, hF1, hN, hroom⟩ := C1
  have hwd : ∀ {pp : Nat} {w : Qw}, wdi pp w = true → goodWord (dw w) = true → (dw w).before args s = true := fun h1 h2 => hts _ (mem_good (wd_of h1) h2)
  have hl := beqN hI; subst hl
  obtain ⟨a, i, v, r, rfl, g⟩ := raii_inv h
  replace h := g
  obtain ⟨k0, h⟩ := gd_inv h
  obtain ⟨hin, h⟩ := bnd_inv h
  refine va_iast (tys := tyA cy) (H0 := s.heap) hx hb hK hR.1 hR.2 hS (a - 4) 2 (at_int k0 (.inr (.inr rfl))) rfl hin hdg (fun H1 locs1 hP1 hD1 hS1 => ?_)
  rw [set_aI k0 (.inr (.inr rfl))] at hP1 hD1
  exact ih tl ls r _ H1 locs1 lsA (pc + 1) hsx hnx hL ⟨hP1, hD1⟩ hS1 h
set_option maxHeartbeats 100000 in
theorem st_castore {q : Option Value × Sg} (Y : Hyp p l e R s m args below meth c cells slots Q sc D cy ad A cc mL own d cd cal q)  : StK p l e R s m args below meth c cells slots Q sc D cy ad A cc mL own d cd cal q (.castore) := by
  intro n ih pc len x y z tb tl ls st σ H locs lsA hmem hI hdg hsx hnx hL hR hS h
  obtain ⟨C0, hcr, hM, hch, hdc, hok, hAll, hfin⟩ := Y
  have C1 := C0
  obtain ⟨⟨hx, hb, hml, hown, hts⟩, hK, hF0, hF1, hN, hroom⟩ := C1
  have hwd : ∀ {pp : Nat} {w : Qw}, wdi pp w = true → goodWord (dw w) = true → (dw w).before args s = true := fun h1 h2 => hts _ (mem_good (wd_of h1) h2)
  have hl := beqN hI; subst hl
  obtain ⟨a, i, v, r, rfl, g⟩ := raii_inv h
  replace h := g
  obtain ⟨k0, h⟩ := gd_inv h
  obtain ⟨hin, h⟩ := bnd_inv h
  refine va_cast (tys := tyA cy) (H0 := s.heap) hx hb hK hR.1 hR.2 hS (a - 4) 1 (at_int k0 (.inr (.inl rfl))) rfl hin hdg (fun H1 locs1 hP1 hD1 hS1 => ?_)
  rw [set_aI k0 (.inr (.inl rfl))] at hP1 hD1
  exact ih tl ls r _ H1 locs1 lsA (pc + 1) hsx hnx hL ⟨hP1, hD1⟩ hS1 h
set_option maxHeartbeats 100000 in
theorem st_bastore {q : Option Value × Sg} (Y : Hyp p l e R s m args below meth c cells slots Q sc D cy ad A cc mL own d cd cal q)  : StK p l e R s m args below meth c cells slots Q sc D cy ad A cc mL own d cd cal q (.bastore) := by
  intro n ih pc len x y z tb tl ls st σ H locs lsA hmem hI hdg hsx hnx hL hR hS h
  obtain ⟨C0, hcr, hM, hch, hdc, hok, hAll, hfin⟩ := Y
  have C1 := C0
  obtain ⟨⟨hx, hb, hml, hown, hts⟩, hK, hF0, hF1, hN, hroom⟩ := C1
  have hwd : ∀ {pp : Nat} {w : Qw}, wdi pp w = true → goodWord (dw w) = true → (dw w).before args s = true := fun h1 h2 => hts _ (mem_good (wd_of h1) h2)
  have hl := beqN hI; subst hl
  obtain ⟨a, i, v, r, rfl, g⟩ := raii_inv h
  replace h := g
  obtain ⟨k0, h⟩ := gd_inv h
  obtain ⟨hin, h⟩ := bnd_inv h
  refine va_bast (tys := tyA cy) (H0 := s.heap) hx hb hK hR.1 hR.2 hS (a - 4) 0 (at_int k0 (.inl rfl)) rfl hin hdg (fun H1 locs1 hP1 hD1 hS1 => ?_)
  rw [set_aI k0 (.inl rfl)] at hP1 hD1
  exact ih tl ls r _ H1 locs1 lsA (pc + 1) hsx hnx hL ⟨hP1, hD1⟩ hS1 h
set_option maxHeartbeats 100000 in
theorem st_lastore {q : Option Value × Sg} (Y : Hyp p l e R s m args below meth c cells slots Q sc D cy ad A cc mL own d cd cal q)  : StK p l e R s m args below meth c cells slots Q sc D cy ad A cc mL own d cd cal q (.lastore) := by
  intro n ih pc len x y z tb tl ls st σ H locs lsA hmem hI hdg hsx hnx hL hR hS h
  obtain ⟨C0, hcr, hM, hch, hdc, hok, hAll, hfin⟩ := Y
  have C1 := C0
  obtain ⟨⟨hx, hb, hml, hown, hts⟩, hK, hF0, hF1, hN, hroom⟩ := C1
  have hwd : ∀ {pp : Nat} {w : Qw}, wdi pp w = true → goodWord (dw w) = true → (dw w).before args s = true := fun h1 h2 => hts _ (mem_good (wd_of h1) h2)
  have hl := beqN hI; subst hl
  obtain ⟨a, i, v, r, rfl, g⟩ := raij_inv h
  replace h := g
  obtain ⟨k0, h⟩ := gd_inv h
  obtain ⟨hin, h⟩ := bnd_inv h
  refine va_last (tys := tyA cy) (H0 := s.heap) hx hb hK hR.1 hR.2 hS (a - 4) 3 (at_long k0) rfl hin hdg (fun H1 locs1 hP1 hD1 hS1 => ?_)
  rw [set_aJ k0] at hP1 hD1
  exact ih tl ls r _ H1 locs1 lsA (pc + 1) hsx hnx hL ⟨hP1, hD1⟩ hS1 h
set_option maxHeartbeats 100000 in
theorem st_arraylength {q : Option Value × Sg} (Y : Hyp p l e R s m args below meth c cells slots Q sc D cy ad A cc mL own d cd cal q)  : StK p l e R s m args below meth c cells slots Q sc D cy ad A cc mL own d cd cal q (.arraylength) := by
  intro n ih pc len x y z tb tl ls st σ H locs lsA hmem hI hdg hsx hnx hL hR hS h
  obtain ⟨C0, hcr, hM, hch, hdc, hok, hAll, hfin⟩ := Y
  have C1 := C0
  obtain ⟨⟨hx, hb, hml, hown, hts⟩, hK, hF0, hF1, hN, hroom⟩ := C1
  have hwd : ∀ {pp : Nat} {w : Qw}, wdi pp w = true → goodWord (dw w) = true → (dw w).before args s = true := fun h1 h2 => hts _ (mem_good (wd_of h1) h2)
  have hl := beqN hI; subst hl
  obtain ⟨a, r, rfl, g⟩ := ra_inv h
  replace h := g
  unfold alX at h
  split at h
  · rename_i k0
    have k1 := SH_16 a k0
    subst k1
    split at h
    · exact (nsm h).elim
    · rename_i nn hnn
      rcases hF1 with hF1 | hF1
      · rw [hF1] at hnn; cases hnn
      · unfold FS at hF1
        rw [hnn] at hF1
        exact va_tlen (N := nn) hx hb hF1 hS rfl hdg (ih tl ls (.int (Int32.ofNat nn) :: r) σ H locs lsA (pc + 1) hsx hnx hL hR hS h)
  · rename_i k16
    split at h
    · rename_i k0
      obtain ⟨k1, k2⟩ := an k0
      have k1 := Nat.le_of_ble_eq_true k1
      have k2 := Nat.le_of_ble_eq_true k2
      have kk : (SH a).1 = 12 ∨ (SH a).1 = 13 ∨ (SH a).1 = 14 ∨ (SH a).1 = 15 ∨ (SH a).1 = 17 ∨ (SH a).1 = 18 := by
        have : (SH a).1 ≠ 16 := fun e => by rw [e] at k16; exact absurd k16 (by decide)
        omega
      rcases kk with k | k | k | k | k | k
      · exact va_alen (tys := tyA cy) hx hb hK hR.1 (a - 4) 0 (at_int k (.inl rfl)) rfl rfl hdg (ih tl ls (.int (Int32.ofNat (SH a).2) :: r) σ H locs lsA (pc + 1) hsx hnx hL hR hS h)
      · exact va_alen (tys := tyA cy) hx hb hK hR.1 (a - 4) 1 (at_int k (.inr (.inl rfl))) rfl rfl hdg (ih tl ls (.int (Int32.ofNat (SH a).2) :: r) σ H locs lsA (pc + 1) hsx hnx hL hR hS h)
      · exact va_alen (tys := tyA cy) hx hb hK hR.1 (a - 4) 2 (at_int k (.inr (.inr rfl))) rfl rfl hdg (ih tl ls (.int (Int32.ofNat (SH a).2) :: r) σ H locs lsA (pc + 1) hsx hnx hL hR hS h)
      · exact va_alen (tys := tyA cy) hx hb hK hR.1 (a - 4) 3 (at_long k) rfl rfl hdg (ih tl ls (.int (Int32.ofNat (SH a).2) :: r) σ H locs lsA (pc + 1) hsx hnx hL hR hS h)
      · have k3 := SH_17 a (by rw [k]; rfl)
        subst k3
        exact va_tlen (N := 7) hx hb hF0.2.1 hS rfl hdg (ih tl ls (.int (Int32.ofNat (SH 2).2) :: r) σ H locs lsA (pc + 1) hsx hnx hL hR hS h)
      · rcases SH_18 a (by rw [k]; rfl) with k3 | k3
        · subst k3
          exact va_tlen (N := 8) hx hb hF0.1 hS rfl hdg (ih tl ls (.int (Int32.ofNat (SH 1).2) :: r) σ H locs lsA (pc + 1) hsx hnx hL hR hS h)
        · subst k3
          exact va_tlen (N := 8) hx hb hF0.2.2.1 hS rfl hdg (ih tl ls (.int (Int32.ofNat (SH 3).2) :: r) σ H locs lsA (pc + 1) hsx hnx hL hR hS h)
    · exact (nsm h).elim
set_option maxHeartbeats 100000 in
theorem st_getstatic {q : Option Value × Sg} (Y : Hyp p l e R s m args below meth c cells slots Q sc D cy ad A cc mL own d cd cal q) (ii : Nat) : StK p l e R s m args below meth c cells slots Q sc D cy ad A cc mL own d cd cal q (.getstatic ii) := by
  intro n ih pc len x y z tb tl ls st σ H locs lsA hmem hI hdg hsx hnx hL hR hS h
  obtain ⟨C0, hcr, hM, hch, hdc, hok, hAll, hfin⟩ := Y
  have C1 := C0
  obtain ⟨⟨hx, hb, hml, hown, hts⟩, hK, hF0, hF1, hN, hroom⟩ := C1
  have hwd : ∀ {pp : Nat} {w : Qw}, wdi pp w = true → goodWord (dw w) = true → (dw w).before args s = true := fun h1 h2 => hts _ (mem_good (wd_of h1) h2)
  match y, h, hI with
  | 0, h, _ => exact (nsm h).elim
  | n + 2, h, _ => exact (nsm h).elim
  | 1, h, hI =>
    match x, hI, h with
    | 0, hI, _ => exact absurd (show false = true from (an hI).2) (by decide)
    | 1, hI, h =>
      obtain ⟨h1, h2⟩ := an (show (Nat.beq len 3 && (bif decide (z = 0) then wdx (pl1 tb) (.fieldLink (ocl own) ii "NamedToWed" "STEP_LETTERS" "[C") else wdx (pl1 tb) (.fieldLinkNest (ocl own) ii "NamedToWed" "STEP_LETTERS" "[C" "NamedToWed"))) = true from hI)
      have hl := beqN h1; subst hl
      cases hz : decide (z = 0) with
      | true =>
        rw [hz] at h2
        exact va_gets hx hb hF0.2.2.2.1 hS hown (hts _ (mem_good (wx_of h2) rfl)) (fun _ h9 => h9) hdg (ih tl ls (.ref 1 :: st) σ H locs lsA (pc + 3) hsx hnx hL hR hS h)
      | false =>
        rw [hz] at h2
        exact va_getsN hx hb hF0.2.2.2.1 hS hown (va_Nw.use rfl (hN _ (wx_of h2) rfl)) (fun _ h9 => h9) hdg (ih tl ls (.ref 1 :: st) σ H locs lsA (pc + 3) hsx hnx hL hR hS h)
    | 2, hI, h =>
      obtain ⟨h1, h2⟩ := an (show (Nat.beq len 3 && (decide (z = 0) && wdx (pl1 tb) (.fieldLink (ocl own) ii "NamedToWed$Changes" "FACTORIALS" "[I"))) = true from hI)
      have hl := beqN h1; subst hl
      exact va_gets hx hb hF0.2.2.2.2.1 hS hown (hts _ (mem_good (wx_of (an h2).2) rfl)) (fun _ h9 => h9) hdg (ih tl ls (.ref 2 :: st) σ H locs lsA (pc + 3) hsx hnx hL hR hS h)
    | 3, hI, h =>
      obtain ⟨h1, h2⟩ := an (show (Nat.beq len 3 && (decide (z = 0) && wdx (pl1 tb) (.fieldLink (ocl own) ii "NamedToWed$LawReader" "LETTERS" "[C"))) = true from hI)
      have hl := beqN h1; subst hl
      exact va_gets hx hb hF0.2.2.2.2.2 hS hown (hts _ (mem_good (wx_of (an h2).2) rfl)) (fun _ h9 => h9) hdg (ih tl ls (.ref 3 :: st) σ H locs lsA (pc + 3) hsx hnx hL hR hS h)
    | k + 4, hI, _ => exact absurd (show false = true from (an hI).2) (by decide)
set_option maxHeartbeats 100000 in
theorem st_invokevirtual {q : Option Value × Sg} (Y : Hyp p l e R s m args below meth c cells slots Q sc D cy ad A cc mL own d cd cal q) (ii : Nat) : StK p l e R s m args below meth c cells slots Q sc D cy ad A cc mL own d cd cal q (.invokevirtual ii) := by
  intro n ih pc len x y z tb tl ls st σ H locs lsA hmem hI hdg hsx hnx hL hR hS h
  obtain ⟨C0, hcr, hM, hch, hdc, hok, hAll, hfin⟩ := Y
  have C1 := C0
  obtain ⟨⟨hx, hb, hml, hown, hts⟩, hK, hF0, hF1, hN, hroom⟩ := C1
  have hwd : ∀ {pp : Nat} {w : Qw}, wdi pp w = true → goodWord (dw w) = true → (dw w).before args s = true := fun h1 h2 => hts _ (mem_good (wd_of h1) h2)
  exact sim_ivk C0 hcr hM hch hdc hok hAll ih (Or.inl rfl) hI hdg hsx hnx hL hR hS h
set_option maxHeartbeats 100000 in
theorem st_invokestatic {q : Option Value × Sg} (Y : Hyp p l e R s m args below meth c cells slots Q sc D cy ad A cc mL own d cd cal q) (ii : Nat) : StK p l e R s m args below meth c cells slots Q sc D cy ad A cc mL own d cd cal q (.invokestatic ii) := by
  intro n ih pc len x y z tb tl ls st σ H locs lsA hmem hI hdg hsx hnx hL hR hS h
  obtain ⟨C0, hcr, hM, hch, hdc, hok, hAll, hfin⟩ := Y
  have C1 := C0
  obtain ⟨⟨hx, hb, hml, hown, hts⟩, hK, hF0, hF1, hN, hroom⟩ := C1
  have hwd : ∀ {pp : Nat} {w : Qw}, wdi pp w = true → goodWord (dw w) = true → (dw w).before args s = true := fun h1 h2 => hts _ (mem_good (wd_of h1) h2)
  exact sim_ivk C0 hcr hM hch hdc hok hAll ih (Or.inr rfl) hI hdg hsx hnx hL hR hS h
set_option maxHeartbeats 100000 in
theorem st_return_ {q : Option Value × Sg} (Y : Hyp p l e R s m args below meth c cells slots Q sc D cy ad A cc mL own d cd cal q)  : StK p l e R s m args below meth c cells slots Q sc D cy ad A cc mL own d cd cal q (.return_) := by
  intro n ih pc len x y z tb tl ls st σ H locs lsA hmem hI hdg hsx hnx hL hR hS h
  obtain ⟨C0, hcr, hM, hch, hdc, hok, hAll, hfin⟩ := Y
  have C1 := C0
  obtain ⟨⟨hx, hb, hml, hown, hts⟩, hK, hF0, hF1, hN, hroom⟩ := C1
  have hwd : ∀ {pp : Nat} {w : Qw}, wdi pp w = true → goodWord (dw w) = true → (dw w).before args s = true := fun h1 h2 => hts _ (mem_good (wd_of h1) h2)
  have hl := beqN hI; subst hl
  match st, h with
  | [], h =>
    have e1 := Option.some.inj h
    subst e1
    exact (hfin _ H locs lsA hmem hR hS).1 rfl rfl rfl
  | _ :: _, h => exact (nsm h).elim
set_option maxHeartbeats 100000 in
theorem st_ireturn {q : Option Value × Sg} (Y : Hyp p l e R s m args below meth c cells slots Q sc D cy ad A cc mL own d cd cal q)  : StK p l e R s m args below meth c cells slots Q sc D cy ad A cc mL own d cd cal q (.ireturn) := by
  intro n ih pc len x y z tb tl ls st σ H locs lsA hmem hI hdg hsx hnx hL hR hS h
  obtain ⟨C0, hcr, hM, hch, hdc, hok, hAll, hfin⟩ := Y
  have C1 := C0
  obtain ⟨⟨hx, hb, hml, hown, hts⟩, hK, hF0, hF1, hN, hroom⟩ := C1
  have hwd : ∀ {pp : Nat} {w : Qw}, wdi pp w = true → goodWord (dw w) = true → (dw w).before args s = true := fun h1 h2 => hts _ (mem_good (wd_of h1) h2)
  have hl := beqN hI; subst hl
  match st, h with
  | [], h => exact (nsm h).elim
  | [.int v], h =>
    match x, h, hmem with
    | 0, h, hmem =>
      have e1 := Option.some.inj (show some (some (Value.int v), σ) = some q from h)
      subst e1
      exact (hfin _ H locs lsA hmem hR hS).2.1 v rfl rfl rfl (Or.inl rfl)
    | k + 1, h, hmem =>
      have h : rZ v σ = some q := h
      unfold rZ at h
      split at h
      · rename_i hv
        have e1 := Option.some.inj (show some (some (Value.int v), σ) = some q from h)
        subst e1
        exact (hfin _ H locs lsA hmem hR hS).2.1 v rfl rfl rfl (Or.inr hv)
      · exact (nsm h).elim
  | .int _ :: _ :: _, h => exact (nsm h).elim
  | .long _ :: _, h => exact (nsm h).elim
  | .float _ :: _, h => exact (nsm h).elim
  | .double _ :: _, h => exact (nsm h).elim
  | .null :: _, h => exact (nsm h).elim
  | .ref _ :: _, h => exact (nsm h).elim
  | .retAddr _ :: _, h => exact (nsm h).elim
set_option maxHeartbeats 100000 in
theorem st_lreturn {q : Option Value × Sg} (Y : Hyp p l e R s m args below meth c cells slots Q sc D cy ad A cc mL own d cd cal q)  : StK p l e R s m args below meth c cells slots Q sc D cy ad A cc mL own d cd cal q (.lreturn) := by
  intro n ih pc len x y z tb tl ls st σ H locs lsA hmem hI hdg hsx hnx hL hR hS h
  obtain ⟨C0, hcr, hM, hch, hdc, hok, hAll, hfin⟩ := Y
  have C1 := C0
  obtain ⟨⟨hx, hb, hml, hown, hts⟩, hK, hF0, hF1, hN, hroom⟩ := C1
  have hwd : ∀ {pp : Nat} {w : Qw}, wdi pp w = true → goodWord (dw w) = true → (dw w).before args s = true := fun h1 h2 => hts _ (mem_good (wd_of h1) h2)
  have hl := beqN hI; subst hl
  match st, h with
  | [], h => exact (nsm h).elim
  | [.long v], h =>
    have e1 := Option.some.inj (show some (some (Value.long v), σ) = some q from h)
    subst e1
    exact (hfin _ H locs lsA hmem hR hS).2.2 v rfl rfl rfl
  | .long _ :: _ :: _, h => exact (nsm h).elim
  | .int _ :: _, h => exact (nsm h).elim
  | .float _ :: _, h => exact (nsm h).elim
  | .double _ :: _, h => exact (nsm h).elim
  | .null :: _, h => exact (nsm h).elim
  | .ref _ :: _, h => exact (nsm h).elim
  | .retAddr _ :: _, h => exact (nsm h).elim
end Sim2
