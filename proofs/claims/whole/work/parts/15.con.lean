/-! THE CONSTRUCTORS: straight-line code over a list of cells that grows -/
abbrev CE : Type := Nat × Nat × List Value × (Nat → Int32)
abbrev Wl : Type := List CE
def rtr (al : List Nat) (v : Value) : Value := match v with
  | .ref a => .ref (al.getD (a - 4) 0)
  | w => w
def rent (cy : Nat → ClassId) (al : List Nat) (en : CE) : va_E := match Nat.blt en.1 12 with
  | true => .inr (en.1, en.2.2.1.map (rtr al))
  | false => match Nat.beq en.1 15 with
    | true => .inl (cy en.1, en.2.1, .inr (.inl (fun _ => 0)))
    | false => .inl (cy en.1, en.2.1, .inl en.2.2.2)
def rws (cy : Nat → ClassId) (al : List Nat) (w : Wl) : va_W := (al.zip w).map fun q => (q.1, rent cy al q.2)
def iok (n : Nat) (v : Value) : Bool := match v with
  | .ref a => Nat.ble 4 a && Nat.blt a (4 + n)
  | _ => true
def wok (w : Wl) : Bool := w.all fun en => en.2.2.1.all (iok w.length)
def aok (w : Wl) (ls st : List Value) : Bool := wok w && ls.all (iok w.length) && st.all (iok w.length)
def dfl (x : Nat) : List Value := (List.range (nf x)).map fun y => match fk x y with
  | 1 => .null
  | 2 => .null
  | _ => .int 0
def vok (x y : Nat) (v : Value) : Bool := match v with
  | .int w => (match fk x y with
    | 0 => true
    | 3 => decide (w = 0 ∨ w = 1)
    | _ => false)
  | .ref _ => (match fk x y with
    | 1 => true
    | 2 => true
    | _ => false)
  | _ => false
/-- how many cells and slots a constructor makes -/
def ccl (x : Nat) : Nat × Nat := match x with
  | 0 => (97, 3983)
  | 2 => (1, 260)
  | 3 => (4, 24)
  | 4 => (7, 168)
  | 5 => (7, 608)
  | 6 => (5, 54)
  | 7 => (7, 109)
  | 8 => (5, 1458)
  | 9 => (6, 144)
  | 10 => (4, 96)
  | 11 => (4, 26)
  | 187 => (55, 9938)
  | _ => (0, 0)
def crun (own : Nat) (cal : Nat → List Value → Wl → Option Wl) (C S : Nat) : Cod → List Value → List Value → Wl → Nat → Nat → Option Wl
  | [], _, _, _, _, _ => none
  | (_, ins, _, x, y, z, _) :: tl, ls, st, w, cu, su => match ins with
    | .aload_n _ => (match lgt ls x with
      | .ref a => crun own cal C S tl ls (.ref a :: st) w cu su
      | _ => none)
    | .iconst _ => crun own cal C S tl ls (.int z :: st) w cu su
    | .bipush _ => crun own cal C S tl ls (.int z :: st) w cu su
    | .sipush _ => crun own cal C S tl ls (.int z :: st) w cu su
    | .dup => (match st with
      | .ref a :: r => crun own cal C S tl ls (.ref a :: .ref a :: r) w cu su
      | _ => none)
    | .new _ => (match aok w ls st && (Nat.blt x 12 && (Nat.ble (cu + 1) C && Nat.ble (su + nf x) S)) with
      | true => crun own cal C S tl ls (.ref (4 + w.length) :: st) (w ++ ([(x, nf x, dfl x, fun _ => 0)] : Wl)) (cu + 1) (su + nf x)
      | false => none)
    | .newarray _ => (match st with
      | .int n :: r => (match aok w ls r && (Nat.ble 12 x && (Nat.ble x 15 && (Nat.ble (cu + 1) C && (Nat.ble (su + ix n) S && (Nat.ble (ix n) 10000 && decide (¬ n < 0)))))) with
        | true => crun own cal C S tl ls (.ref (4 + w.length) :: r) (w ++ ([(x, ix n, [], fun _ => 0)] : Wl)) (cu + 1) (su + ix n)
        | false => none)
      | _ => none)
    | .putfield _ => (match st with
      | v :: .ref a :: r => (match w[a - 4]? with
        | some en => (match Nat.ble 4 a && (Nat.beq en.1 x && (Nat.beq own x && (Nat.blt x 12 && (Nat.blt y (nf x) && (Nat.beq en.2.2.1.length (nf x) && vok x y v))))) with
          | true => crun own cal C S tl ls r (w.set (a - 4) (en.1, en.2.1, en.2.2.1.set y v, en.2.2.2)) cu su
          | false => none)
        | none => none)
      | _ => none)
    | .getfield _ => (match st with
      | .ref a :: r => (match w[a - 4]? with
        | some en => (match Nat.ble 4 a && (Nat.beq en.1 x && (Nat.blt x 12 && Nat.blt y (nf x))) with
          | true => (match en.2.2.1[y]? with
            | some v => crun own cal C S tl ls (v :: r) w cu su
            | none => none)
          | false => none)
        | none => none)
      | _ => none)
    | .iastore => (match st with
      | .int v :: .int i :: .ref a :: r => (match w[a - 4]? with
        | some en => (match Nat.ble 4 a && (Nat.beq en.1 14 && decide (¬ (i < 0 ∨ en.2.1 ≤ ix i))) with
          | true => crun own cal C S tl ls r (w.set (a - 4) (en.1, en.2.1, en.2.2.1, upd en.2.2.2 (ix i) v)) cu su
          | false => none)
        | none => none)
      | _ => none)
    | .invokespecial _ => (match st with
      | .ref a :: r => (match Nat.beq x 1 with
        | true => (match Nat.ble r.length 4 with
          | true => crun own cal C S tl ls r w cu su
          | false => none)
        | false => (match aok w ls st && (Nat.ble r.length 4 && (Nat.ble (cu + (ccl x).1) C && (Nat.ble (su + (ccl x).2) S && (decide (z = 1) && Nat.ble 1 (ccl x).1)))) with
          | true => (match cal x [.ref a] w with
            | some w' => crun own cal C S tl ls r w' (cu + (ccl x).1) (su + (ccl x).2)
            | none => none)
          | false => none))
      | _ => none)
    | .return_ => (match st with
      | [] => some w
      | _ => none)
    | _ => none
def cev : Nat → Nat → List Value → Wl → Option Wl
  | 0, _, _, _ => none
  | d + 1, k, as, w => match Nat.ble (lay as).length (mmL k) with
    | true => crun (mow k) (cev d) (ccl k).1 (ccl k).2 (mcd k) (lfl (mmL k) (lay as)) [] w 0 0
    | false => none
def w0 : Wl := [(10, nf 10, dfl 10, fun _ => 0)]
def w1 : Wl := (cev 3 0 [.ref 4] w0).getD []
def w2 : Wl := w1 ++ ([(11, nf 11, dfl 11, fun _ => 0)] : Wl)
def w3 : Wl := (cev 3 187 [.ref 102] w2).getD []
theorem w1_ok : (cev 3 0 [.ref 4] w0).isSome = true ∧ w1.length = 98 := by decide +kernel
theorem w3_ok : (cev 3 187 [.ref 102] w2).isSome = true ∧ w3.length = 154 := by decide +kernel
/-- the store behind both constructors -/
def σ0 : Sg := (fun a k => match w3[a - 4]? with
  | some en => (match Nat.blt en.1 12 with
    | true => (match en.2.2.1.getD k .null with
      | .int v => v
      | _ => 0)
    | false => en.2.2.2 k)
  | none => 0, fun _ _ => 0, fun a k => match w3[a - 4]? with
  | some en => (match en.2.2.1.getD k .null with
    | .ref v => v
    | _ => 0)
  | none => 0)
def wchk (a : Nat) : Bool := match w3[a - 4]? with
  | some en => Nat.beq en.1 (SH a).1 && (match Nat.blt en.1 12 with
    | true => decide (en.2.2.1 = (List.range (nf en.1)).map (fun y => match fk en.1 y with
      | 1 => Value.ref (a + ofs en.1 y)
      | 2 => .ref (σ0.2.2 a y)
      | _ => .int (σ0.1 a y)))
    | false => Nat.beq en.2.1 (SH a).2)
  | none => false
theorem wchk_ok : ∀ j, j < 154 → wchk (j + 4) = true := by decide +kernel
