/-! THE LISTINGS ARE THE CODE'S, and their links are the tables' words -/
def wdi (p : Nat) (w : Qw) : Bool := decide (QS[p]? = some w)
def wdx (p : Nat) (w : Cond) : Bool := decide (SPX[p]? = some w)
def tbOf (pc : Nat) : Int → List Int → List (Int32 × Nat)
  | _, [] => []
  | lo, o :: t => (Int32.ofInt lo, ((pc : Int) + o).toNat) :: tbOf pc (lo + 1) t
def lkOf (pc : Nat) (ps : List (Int × Int)) : List (Int32 × Nat) := ps.map fun q => (Int32.ofInt q.1, ((pc : Int) + q.2).toNat)
def pl1 (tb : List (Int32 × Nat)) : Nat := match tb with
  | q :: _ => q.2
  | [] => 0
def pl2 (tb : List (Int32 × Nat)) : Nat := match tb with
  | q :: _ => q.1.toNatClampNeg
  | [] => 0
def jok (pc : Nat) (off : Int) (x : Nat) : Bool := decide ((pc : Int) + off = (x : Int))
/-- one row -/
def okI (own : Nat) (mL : Nat) (it : Itm) : Bool := match it with
  | (pc, ins, len, x, y, z, tb) => match ins with
    | .iconst n => Nat.beq len 1 && decide (Int32.ofInt n = z)
    | .bipush n => Nat.beq len 2 && decide ((Int8.ofInt n).toInt32 = z)
    | .sipush n => Nat.beq len 3 && decide ((Int16.ofInt n).toInt32 = z)
    | .ldc i => Nat.beq len 2 && (!Nat.beq y 1 || wdi (pl1 tb) (8, own, i, pl2 tb) && decide (cz (pl2 tb) = z))
    | .ldc_w i => Nat.beq len 3 && (!Nat.beq y 1 || wdi (pl1 tb) (8, own, i, pl2 tb) && decide (cz (pl2 tb) = z))
    | .ldc2_w i => Nat.beq len 3 && (!Nat.beq y 1 || wdx (pl1 tb) (.constantLong (ocl own) i z.toInt64))
    | .lconst n => Nat.beq len 1 && decide (Int64.ofNat n.val = z.toInt64)
    | .iload i => Nat.beq len 2 && Nat.beq i x
    | .iload_n n => Nat.beq len 1 && Nat.beq n.val x
    | .aload i => Nat.beq len 2 && Nat.beq i x
    | .aload_n n => Nat.beq len 1 && Nat.beq n.val x
    | .lload_n n => Nat.beq len 1 && Nat.beq n.val x
    | .istore i => Nat.beq len 2 && Nat.beq i x && Nat.blt x mL
    | .istore_n n => Nat.beq len 1 && Nat.beq n.val x && Nat.blt x mL
    | .astore i => Nat.beq len 2 && Nat.beq i x && Nat.blt x mL
    | .astore_n n => Nat.beq len 1 && Nat.beq n.val x && Nat.blt x mL
    | .iinc i n => Nat.beq len 3 && Nat.beq i x && Nat.blt x mL && decide (Int32.ofInt n = z)
    | .goto off => Nat.beq len 3 && jok pc off x
    | .if_icmp _ off => Nat.beq len 3 && jok pc off x
    | .ifCond _ off => Nat.beq len 3 && jok pc off x
    | .tableswitch df lo hi offs => jok pc df x && decide (tb = tbOf pc lo offs.toList) && decide (hi = lo + offs.size - 1) && offs.toList.all (fun o => decide (0 ≤ (pc : Int) + o)) && decide (-1000 ≤ lo ∧ hi < 1000)
    | .lookupswitch df ps => jok pc df x && decide (tb = lkOf pc ps.toList) && (ps.toList.zip (ps.toList.drop 1)).all (fun (a, next) => a.1 < next.1) && ps.toList.all (fun o => decide (0 ≤ (pc : Int) + o.2 ∧ -1000 ≤ o.1 ∧ o.1 < 1000))
    | .getfield i => Nat.beq len 3 && Nat.blt x 12 && Nat.blt y (nf x) && wdi (pl1 tb) (7, own, i, x * 100 + y)
    | .putfield i => Nat.beq len 3 && Nat.blt x 12 && Nat.blt y (nf x) && wdi (pl1 tb) (7, own, i, x * 100 + y)
    | .getstatic i => Nat.beq len 3 && (!Nat.beq y 1 || (match x with
      | 1 => bif decide (z = 0) then wdx (pl1 tb) (.fieldLink (ocl own) i "NamedToWed" "STEP_LETTERS" "[C") else wdx (pl1 tb) (.fieldLinkNest (ocl own) i "NamedToWed" "STEP_LETTERS" "[C" "NamedToWed")
      | 2 => decide (z = 0) && wdx (pl1 tb) (.fieldLink (ocl own) i "NamedToWed$Changes" "FACTORIALS" "[I")
      | 3 => decide (z = 0) && wdx (pl1 tb) (.fieldLink (ocl own) i "NamedToWed$LawReader" "LETTERS" "[C")
      | _ => false))
    | .invokevirtual i => Nat.beq len 3 && (Nat.beq x 998 || (Nat.blt x 340 && Nat.blt (mkd x) 12 && Nat.beq y (mnp x + 1) && decide (z = 0) && wdi (pl1 tb) (1, own, i, x) && wdi (mpl x).2.2.2 (5, x, 0, 0)))
    | .invokestatic i => Nat.beq len 3 && (bif Nat.beq x 999 then wdx (pl1 tb) (.methodLink (ocl own) i arraycopyName)
        else (Nat.beq x 998 || (Nat.blt x 340 && Nat.beq (mkd x) 99 && Nat.beq y (mnp x) && (bif decide (z = 0) then wdi (pl1 tb) (1, own, i, x) else wdi (pl1 tb) (2, own, i, x)))))
    | .invokespecial i => Nat.beq len 3 && (Nat.beq x 998 || (Nat.blt x 340 && (bif decide (z = 0) then wdi (pl1 tb) (1, own, i, x) else wdi (pl1 tb) (2, own, i, x))))
    | .new i => Nat.beq len 3 && (Nat.beq x 98 || wdi (pl1 tb) (9, own, i, x))
    | .athrow => Nat.beq len 1
    | .return_ => Nat.beq len 1
    | .ireturn => Nat.beq len 1
    | .lreturn => Nat.beq len 1
    | .newarray t => Nat.beq len 2 && (match t with
      | .byte => Nat.beq x 12
      | .char => Nat.beq x 13
      | .int => Nat.beq x 14
      | .long => Nat.beq x 15
      | _ => false)
    | .invokedynamic _ => true
    | _ => Nat.beq len 1
def chn : Cod → Bool
  | [] => true
  | it :: tl => (match tl with
    | [] => true
    | b :: _ => Nat.beq b.1 (it.1 + it.2.2.1)) && chn tl
def decs (cc : ByteArray) (cd : Cod) : Prop := ∀ it ∈ cd, decode cc it.1 = .ok (it.2.1, it.2.2.1)
/-- what a method's own words are -/
def okW (k : Nat) : Bool := wdi (mpl k).1 (0, k, 0, 0) && wdi (mpl k).2.1 (6, mow k, 0, 0) && decide (ocl (mow k) = (mY k).cls) &&
  decide ((mY k).cls ≠ "java/lang/invoke/MethodHandle" ∧ (mY k).cls ≠ "java/lang/invoke/VarHandle") &&
  decide ((parseMethodDescriptor (mY k).desc).map (fun d => d.parameters.length) = some (mnp k)) &&
  (bif Nat.beq (mkd k) 99 then wdi (mpl k).2.2.1 (3, k, 0, 0)
   else (wdi (mpl k).2.2.1 (4, k, 0, 0) && decide ((vwCl[mkd k]?).map (fun q => q.1) = some (mY k).cls) && (decide ((mY k).name = "<init>") || wdi (mpl k).2.2.2 (5, k, 0, 0))))
def okB (k : Nat) : Bool := plainName (mY k).cls &&
  (match mret k with
   | none => Nat.beq (mrk k) 0
   | some .int => Nat.beq (mrk k) 1
   | some .boolean => Nat.beq (mrk k) 1
   | some .long => Nat.beq (mrk k) 2
   | _ => false) && Nat.blt (mmL k) 25 &&
  (match mcd k with
   | it :: _ => Nat.beq it.1 0
   | [] => false)
/-- boolean answers are held to 0, 1 -/
def retI (k : Nat) (it : Itm) : Bool := match it.2.1 with
  | .ireturn => (match mret k with
    | some .int => Nat.beq it.2.2.2.1 0
    | some .boolean => Nat.beq it.2.2.2.1 1
    | _ => false)
  | .return_ => decide (mret k = none)
  | .lreturn => decide (mret k = some .long)
  | _ => true
set_option maxRecDepth 100000 in
def okA (k : Nat) : Bool := (Nat.beq k 1 || (okW k && (Nat.beq k 55 || Nat.beq k 56 || okB k))) && chn (mcd k) && (mcd k).all (fun it => okI (mow k) (mmL k) it && retI k it)
/-! every row is what the code's bytes say -/
def okD (cc : ByteArray) (cd : Cod) : Bool := cd.all fun it => decide (decode cc it.1 = .ok (it.2.1, it.2.2.1))
