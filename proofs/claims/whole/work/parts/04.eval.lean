/-! THE SMALL MACHINE: one method's listing over a store of numbered cells; no cell is made. A store: ints, longs, changing references, by cell and slot. -/
abbrev Sg : Type := (Nat → Nat → Int32) × (Nat → Nat → Int64) × (Nat → Nat → Nat)
abbrev Rs : Type := Option (Option Value × Sg)
def sI (σ : Sg) (a k : Nat) (v : Int32) : Sg := (fun b j => if b = a ∧ j = k then v else σ.1 b j, σ.2)
def sJ (σ : Sg) (a k : Nat) (v : Int64) : Sg := (σ.1, fun b j => if b = a ∧ j = k then v else σ.2.1 b j, σ.2.2)
def sR (σ : Sg) (a k : Nat) (v : Nat) : Sg := (σ.1, σ.2.1, fun b j => if b = a ∧ j = k then v else σ.2.2 b j)
def sC (σ : Sg) (a0 a sp dp n : Nat) : Sg := (fun b j => if b = a ∧ dp ≤ j ∧ j < dp + n then σ.1 a0 (sp + (j - dp)) else σ.1 b j, σ.2)
abbrev ix (i : Int32) : Nat := i.toNatClampNeg
def rI (v : Int32) (σ : Sg) : Rs := some (some (.int v), σ)
def rJ (v : Int64) (σ : Sg) : Rs := some (some (.long v), σ)
def rV (σ : Sg) : Rs := some (none, σ)
def rZ (v : Int32) (σ : Sg) : Rs := if v = 0 ∨ v = 1 then rI v σ else none
def cI (o : Rs) (K : Int32 → Sg → Rs) : Rs := match o with
  | some (some (.int x), σ) => K x σ
  | _ => none
def cJ (o : Rs) (K : Int64 → Sg → Rs) : Rs := match o with
  | some (some (.long x), σ) => K x σ
  | _ => none
def cV (o : Rs) (K : Sg → Rs) : Rs := match o with
  | some (none, σ) => K σ
  | _ => none
def bnd (i : Int32) (n : Nat) (X : Rs) : Rs := if i < 0 ∨ n ≤ ix i then none else X
def gdK (k a : Nat) (X : Rs) : Rs := match Nat.beq (SH a).1 k with
  | true => X
  | false => none
/-- a field: an int, a reference -/
def gfI (k a y : Nat) (σ : Sg) (K : Int32 → Rs) : Rs := gdK k a (K (σ.1 a y))
def gfS (k a y : Nat) (K : Nat → Rs) : Rs := gdK k a (K (a + ofs k y))
def gfD (k a y : Nat) (σ : Sg) (K : Nat → Rs) : Rs := gdK k a (K (σ.2.2 a y))
def pfI (k a y : Nat) (v : Int32) (σ : Sg) (K : Sg → Rs) : Rs := gdK k a (K (sI σ a y v))
def pfZ (k a y : Nat) (v : Int32) (σ : Sg) (K : Sg → Rs) : Rs := gdK k a (if v = 0 ∨ v = 1 then K (sI σ a y v) else none)
def pfD (k a y : Nat) (v : Nat) (σ : Sg) (K : Sg → Rs) : Rs := gdK k a (K (sR σ a y v))
/-! a row's place -/
/-- the script: one more than its length (0: there is none), what stands where; no method but the law's has one -/
abbrev Scr : Type := Nat × (Nat → Int32)
def sc0 : Scr := (0, fun _ => 0)
def ldX (sc : Scr) (a : Nat) (i : Int32) (σ : Sg) (K : Int32 → Rs) : Rs := match Nat.beq (SH a).1 14 with
  | true => bnd i (SH a).2 (K (σ.1 a (ix i)))
  | false => match Nat.beq (SH a).1 17 with
    | true => bnd i (SH a).2 (K (FC a (ix i)))
    | false => match Nat.beq (SH a).1 16 with
      | true => bnd i (sc.1 - 1) (K (sc.2 (ix i)))
      | false => none
abbrev ldI := ldX sc0
def ldC (a : Nat) (i : Int32) (σ : Sg) (K : Int32 → Rs) : Rs := match Nat.beq (SH a).1 13 with
  | true => bnd i (SH a).2 (K (σ.1 a (ix i)))
  | false => match Nat.beq (SH a).1 18 with
    | true => bnd i (SH a).2 (K (FC a (ix i)))
    | false => none
def ldB (a : Nat) (i : Int32) (σ : Sg) (K : Int32 → Rs) : Rs := gdK 12 a (bnd i (SH a).2 (K (σ.1 a (ix i))))
def ldJ (a : Nat) (i : Int32) (σ : Sg) (K : Int64 → Rs) : Rs := gdK 15 a (bnd i (SH a).2 (K (σ.2.1 a (ix i))))
def stI (a : Nat) (i v : Int32) (σ : Sg) (K : Sg → Rs) : Rs := gdK 14 a (bnd i (SH a).2 (K (sI σ a (ix i) v)))
def stC (a : Nat) (i v : Int32) (σ : Sg) (K : Sg → Rs) : Rs := gdK 13 a (bnd i (SH a).2 (K (sI σ a (ix i) (vp_nar .char v))))
def stB (a : Nat) (i v : Int32) (σ : Sg) (K : Sg → Rs) : Rs := gdK 12 a (bnd i (SH a).2 (K (sI σ a (ix i) (vp_nar .byte v))))
def stJ (a : Nat) (i : Int32) (v : Int64) (σ : Sg) (K : Sg → Rs) : Rs := gdK 15 a (bnd i (SH a).2 (K (sJ σ a (ix i) v)))
def alX (sc : Scr) (a : Nat) (K : Int32 → Rs) : Rs := match Nat.beq (SH a).1 16 with
  | true => (match sc.1 with
    | 0 => none
    | n + 1 => K (Int32.ofNat n))
  | false => match Nat.ble 12 (SH a).1 && Nat.ble (SH a).1 18 with
    | true => K (Int32.ofNat (SH a).2)
    | false => none
abbrev aln := alX sc0
def acp (a0 a : Nat) (sp dp n : Int32) (σ : Sg) (K : Sg → Rs) : Rs := gdK 14 a0 (gdK 14 a
  (if sp < 0 ∨ dp < 0 ∨ n < 0 ∨ (SH a0).2 < ix sp + ix n ∨ (SH a).2 < ix dp + ix n then none else K (sC σ a0 a (ix sp) (ix dp) (ix n))))
def dvI (x y : Int32) (K : Int32 → Rs) : Rs := if y = 0 then none else K (x / y)
def rmI (x y : Int32) (K : Int32 → Rs) : Rs := if y = 0 then none else K (x % y)
/-! the locals: a list; .null is 'not set' -/
def lgt : List Value → Nat → Value
  | [], _ => .null
  | v :: _, 0 => v
  | _ :: t, n + 1 => lgt t n
def nlg (v : Value) : Value := match v with
  | .long _ => .null
  | .double _ => .null
  | w => w
def lpt : List Value → Nat → Value → List Value
  | [], _, _ => []
  | _ :: t, 0, v => v :: t
  | w :: t, n + 1, v => match n with
    | 0 => nlg w :: lpt t 0 v
    | k + 1 => w :: lpt t (k + 1) v
def lay : List Value → List Value
  | [] => []
  | v :: t => match v with
    | .long x => .long x :: .null :: lay t
    | .double x => .double x :: .null :: lay t
    | w => w :: lay t
def lfl : Nat → List Value → List Value
  | 0, _ => []
  | n + 1, [] => .null :: lfl n []
  | n + 1, v :: t => v :: lfl n t
def jmp : Cod → Nat → Cod
  | [], _ => []
  | it :: tl, x => match Nat.beq it.1 x with
    | true => it :: tl
    | false => jmp tl x
def sw (v : Int32) (f : Nat → Rs) (d : Rs) : List (Int32 × Nat) → Rs
  | [] => d
  | q :: t => if v = q.1 then f q.2 else sw v f d t
abbrev Kt : Type := Cod → List Value → List Value → Sg → Rs
/-! (hh20 stands in what the machine itself unfolds: it comes first when two terms are compared) -/
def hh0 : Nat := 0
def hh1 : Nat := hh0
def hh2 : Nat := hh1
def hh3 : Nat := hh2
def hh4 : Nat := hh3
def hh5 : Nat := hh4
def hh6 : Nat := hh5
def hh7 : Nat := hh6
def hh8 : Nat := hh7
def hh9 : Nat := hh8
def hh10 : Nat := hh9
def hh11 : Nat := hh10
def hh12 : Nat := hh11
def hh13 : Nat := hh12
def hh14 : Nat := hh13
def hh15 : Nat := hh14
def hh16 : Nat := hh15
def hh17 : Nat := hh16
def hh18 : Nat := hh17
def hh19 : Nat := hh18
def hh20 : Nat := hh19
def u1 (st : List Value) (f : Int32 → List Value → Rs) : Rs := let _h := hh20; match st with
  | .int a :: r => f a r
  | _ => none
def b2 (st : List Value) (f : Int32 → Int32 → List Value → Rs) : Rs := let _h := hh20; match st with
  | .int b :: .int a :: r => f a b r
  | _ => none
def l2 (st : List Value) (f : Int64 → Int64 → List Value → Rs) : Rs := let _h := hh20; match st with
  | .long b :: .long a :: r => f a b r
  | _ => none
def ra (st : List Value) (f : Nat → List Value → Rs) : Rs := let _h := hh20; match st with
  | .ref a :: r => f a r
  | _ => none
def rai (st : List Value) (f : Nat → Int32 → List Value → Rs) : Rs := let _h := hh20; match st with
  | .int i :: .ref a :: r => f a i r
  | _ => none
def raii (st : List Value) (f : Nat → Int32 → Int32 → List Value → Rs) : Rs := let _h := hh20; match st with
  | .int v :: .int i :: .ref a :: r => f a i v r
  | _ => none
def raij (st : List Value) (f : Nat → Int32 → Int64 → List Value → Rs) : Rs := let _h := hh20; match st with
  | .long v :: .int i :: .ref a :: r => f a i v r
  | _ => none
def c1 (v : Value) : Bool := match v with
  | .long _ => false
  | .double _ => false
  | _ => true
def thk (x : Nat) (as : List Value) (X : Rs) : Rs := let _h := hh20; match mkd x with
  | 99 => X
  | 98 => none
  | k => match as with
    | .ref a :: _ => gdK k a X
    | _ => none
def bk (t : Nat) (o : Rs) (r : List Value) (K : List Value → Sg → Rs) : Rs := let _h := hh20; match t with
  | 0 => cV o (fun σ => K r σ)
  | 1 => cI o (fun v σ => K (.int v :: r) σ)
  | _ => cJ o (fun v σ => K (.long v :: r) σ)
def mnI (a b : Int32) : Int32 := if b < a then b else a
def mxI (a b : Int32) : Int32 := if a < b then b else a
def mm2 (st : List Value) (f : Int32 → Int32 → List Value → Rs) : Rs := let _h := hh20; match st with
  | .int b :: .int a :: r => (match Nat.ble r.length 4 with
    | true => f a b r
    | false => none)
  | _ => none
def ivk (cal : Nat → List Value → Sg → Rs) (x y : Nat) (st : List Value) (σ : Sg) (K : List Value → Sg → Rs) : Rs :=
  let _h := hh20; match Nat.beq x 999 with
  | true => (match st with
    | .int n :: .int dp :: .ref a :: .int sp :: .ref a0 :: [] => acp a0 a sp dp n σ (fun σ => K [] σ)
    | _ => none)
  | false => match Nat.beq x 55 with
   | true => mm2 st fun a b r => K (.int (mnI a b) :: r) σ
   | false => match Nat.beq x 56 with
    | true => mm2 st fun a b r => K (.int (mxI a b) :: r) σ
    | false => match Nat.ble y st.length && Nat.ble (st.drop y).length 4 with
     | true => thk x (st.take y).reverse (bk (mrk x) (cal x (st.take y).reverse σ) (st.drop y) K)
     | false => none
def stp (sc : Scr) (cal : Nat → List Value → Sg → Rs) (cd : Cod) (K : Kt) (it : Itm) (tl : Cod) (ls st : List Value) (σ : Sg) : Rs :=
  match it with
  | (_, ins, _, x, y, z, tb) => match ins with
    | .iconst _ => K tl ls (.int z :: st) σ
    | .bipush _ => K tl ls (.int z :: st) σ
    | .sipush _ => K tl ls (.int z :: st) σ
    | .ldc _ => (match y with
      | 1 => K tl ls (.int z :: st) σ
      | _ => none)
    | .ldc_w _ => (match y with
      | 1 => K tl ls (.int z :: st) σ
      | _ => none)
    | .ldc2_w _ => (match y with
      | 1 => K tl ls (.long z.toInt64 :: st) σ
      | _ => none)
    | .lconst _ => K tl ls (.long z.toInt64 :: st) σ
    | .iload _ => (match lgt ls x with
      | .int v => K tl ls (.int v :: st) σ
      | _ => none)
    | .iload_n _ => (match lgt ls x with
      | .int v => K tl ls (.int v :: st) σ
      | _ => none)
    | .aload _ => (match lgt ls x with
      | .ref v => K tl ls (.ref v :: st) σ
      | _ => none)
    | .aload_n _ => (match lgt ls x with
      | .ref v => K tl ls (.ref v :: st) σ
      | _ => none)
    | .lload_n _ => (match lgt ls x with
      | .long v => K tl ls (.long v :: st) σ
      | _ => none)
    | .istore _ => u1 st fun v r => K tl (lpt ls x (.int v)) r σ
    | .istore_n _ => u1 st fun v r => K tl (lpt ls x (.int v)) r σ
    | .astore _ => ra st fun v r => K tl (lpt ls x (.ref v)) r σ
    | .astore_n _ => ra st fun v r => K tl (lpt ls x (.ref v)) r σ
    | .iinc _ _ => (match lgt ls x with
      | .int v => K tl (lpt ls x (.int (v + z))) st σ
      | _ => none)
    | .iadd => b2 st fun a b r => K tl ls (.int (a + b) :: r) σ
    | .isub => b2 st fun a b r => K tl ls (.int (a - b) :: r) σ
    | .imul => b2 st fun a b r => K tl ls (.int (a * b) :: r) σ
    | .iand => b2 st fun a b r => K tl ls (.int (a &&& b) :: r) σ
    | .ior => b2 st fun a b r => K tl ls (.int (a ||| b) :: r) σ
    | .ixor => b2 st fun a b r => K tl ls (.int (a ^^^ b) :: r) σ
    | .ishl => b2 st fun a b r => K tl ls (.int (a <<< (b &&& 31)) :: r) σ
    | .ishr => b2 st fun a b r => K tl ls (.int (a >>> (b &&& 31)) :: r) σ
    | .iushr => b2 st fun a b r => K tl ls (.int (a.toUInt32 >>> (b.toUInt32 &&& Int32.toUInt32 31)).toInt32 :: r) σ
    | .idiv => b2 st fun a b r => dvI a b fun v => K tl ls (.int v :: r) σ
    | .irem => b2 st fun a b r => rmI a b fun v => K tl ls (.int v :: r) σ
    | .ladd => l2 st fun a b r => K tl ls (.long (a + b) :: r) σ
    | .lcmp => l2 st fun a b r => K tl ls (.int (lg_cmp a b) :: r) σ
    | .i2b => u1 st fun a r => K tl ls (.int a.toInt8.toInt32 :: r) σ
    | .i2c => u1 st fun a r => K tl ls (.int (a.toUInt32 % 65536).toInt32 :: r) σ
    | .dup => (match st with
      | v :: r => (match c1 v with
        | true => K tl ls (v :: v :: r) σ
        | false => none)
      | _ => none)
    | .pop => (match st with
      | v :: r => (match c1 v with
        | true => K tl ls r σ
        | false => none)
      | _ => none)
    | .dup2 => (match st with
      | v :: w :: r => (match c1 v && c1 w with
        | true => K tl ls (v :: w :: v :: w :: r) σ
        | false => none)
      | _ => none)
    | .dup_x1 => (match st with
      | v :: w :: r => (match c1 v && c1 w with
        | true => K tl ls (v :: w :: v :: r) σ
        | false => none)
      | _ => none)
    | .goto _ => K (jmp cd x) ls st σ
    | .if_icmp .eq _ => b2 st fun a b r => if a = b then K (jmp cd x) ls r σ else K tl ls r σ
    | .if_icmp .ne _ => b2 st fun a b r => if a = b then K tl ls r σ else K (jmp cd x) ls r σ
    | .if_icmp .lt _ => b2 st fun a b r => if a < b then K (jmp cd x) ls r σ else K tl ls r σ
    | .if_icmp .ge _ => b2 st fun a b r => if a < b then K tl ls r σ else K (jmp cd x) ls r σ
    | .if_icmp .gt _ => b2 st fun a b r => if b < a then K (jmp cd x) ls r σ else K tl ls r σ
    | .if_icmp .le _ => b2 st fun a b r => if b < a then K tl ls r σ else K (jmp cd x) ls r σ
    | .ifCond .eq _ => u1 st fun a r => if a = 0 then K (jmp cd x) ls r σ else K tl ls r σ
    | .ifCond .ne _ => u1 st fun a r => if a = 0 then K tl ls r σ else K (jmp cd x) ls r σ
    | .ifCond .lt _ => u1 st fun a r => if a < 0 then K (jmp cd x) ls r σ else K tl ls r σ
    | .ifCond .ge _ => u1 st fun a r => if a < 0 then K tl ls r σ else K (jmp cd x) ls r σ
    | .ifCond .gt _ => u1 st fun a r => if 0 < a then K (jmp cd x) ls r σ else K tl ls r σ
    | .ifCond .le _ => u1 st fun a r => if 0 < a then K tl ls r σ else K (jmp cd x) ls r σ
    | .tableswitch _ _ _ _ => u1 st fun a r => sw a (fun t => K (jmp cd t) ls r σ) (K (jmp cd x) ls r σ) tb
    | .lookupswitch _ _ => u1 st fun a r => sw a (fun t => K (jmp cd t) ls r σ) (K (jmp cd x) ls r σ) tb
    | .getfield _ => ra st fun a r => (match fk x y with
      | 0 => gfI x a y σ fun v => K tl ls (.int v :: r) σ
      | 1 => gfS x a y fun v => K tl ls (.ref v :: r) σ
      | 2 => gfD x a y σ fun v => K tl ls (.ref v :: r) σ
      | 3 => gfI x a y σ fun v => K tl ls (.int v :: r) σ
      | _ => none)
    | .putfield _ => (match st with
      | .int v :: .ref a :: r => (match fk x y with
        | 0 => pfI x a y v σ fun σ => K tl ls r σ
        | 3 => pfZ x a y v σ fun σ => K tl ls r σ
        | _ => none)
      | .ref v :: .ref a :: r => (match fk x y with
        | 2 => pfD x a y v σ fun σ => K tl ls r σ
        | _ => none)
      | _ => none)
    | .iaload => rai st fun a i r => ldX sc a i σ fun v => K tl ls (.int v :: r) σ
    | .caload => rai st fun a i r => ldC a i σ fun v => K tl ls (.int v :: r) σ
    | .baload => rai st fun a i r => ldB a i σ fun v => K tl ls (.int v :: r) σ
    | .laload => rai st fun a i r => ldJ a i σ fun v => K tl ls (.long v :: r) σ
    | .iastore => raii st fun a i v r => stI a i v σ fun σ => K tl ls r σ
    | .castore => raii st fun a i v r => stC a i v σ fun σ => K tl ls r σ
    | .bastore => raii st fun a i v r => stB a i v σ fun σ => K tl ls r σ
    | .lastore => raij st fun a i v r => stJ a i v σ fun σ => K tl ls r σ
    | .arraylength => ra st fun a r => alX sc a fun v => K tl ls (.int v :: r) σ
    | .getstatic _ => (match y with
      | 1 => K tl ls (.ref x :: st) σ
      | _ => none)
    | .invokevirtual _ => ivk cal x y st σ fun r σ => K tl ls r σ
    | .invokestatic _ => ivk cal x y st σ fun r σ => K tl ls r σ
    | .invokespecial _ => none
    | .return_ => (match st with
      | [] => rV σ
      | _ => none)
    | .ireturn => (match st with
      | .int v :: [] => (match x with
        | 0 => rI v σ
        | _ => rZ v σ)
      | _ => none)
    | .lreturn => (match st with
      | .long v :: [] => rJ v σ
      | _ => none)
    | _ => none
/-- a step goes on in one place at most, and that hangs on nothing behind it -/
def Alt (F : Kt → Rs) : Prop := (∃ r, ∀ K, F K = r) ∨ ∃ s l t g, ∀ K, F K = K s l t g
theorem alt_sw {a : Int32} {f : Kt → Nat → Rs} {d : Kt → Rs} (hf : ∀ t, Alt (fun K => f K t)) (hd : Alt d) : ∀ tb : List (Int32 × Nat), Alt (fun K => sw a (f K) (d K) tb)
  | [] => hd
  | q :: t => by
    by_cases h : a = q.1
    · simp only [sw, if_pos h]; exact hf q.2
    · simp only [sw, if_neg h]; exact alt_sw hf hd t
theorem alt_K {s : Cod} {l t : List Value} {g : Sg} : Alt (fun K => K s l t g) := Or.inr ⟨s, l, t, g, fun _ => rfl⟩
theorem alt_c {r : Rs} : Alt (fun _ => r) := Or.inl ⟨r, fun _ => rfl⟩
theorem alt_bk {tl : Cod} {ls : List Value} (t : Nat) (o : Rs) (r : List Value) : Alt (fun K => bk t o r (fun r σ => K tl ls r σ)) := by
  unfold bk
  split
  · unfold cV; split
    · exact alt_K
    · exact alt_c
  · unfold cI; split
    · exact alt_K
    · exact alt_c
  · unfold cJ; split
    · exact alt_K
    · exact alt_c
theorem alt_gd {k a : Nat} {F : Kt → Rs} (h : Alt F) : Alt (fun K => gdK k a (F K)) := by
  unfold gdK; split
  · exact h
  · exact alt_c
theorem alt_bnd {i : Int32} {n : Nat} {F : Kt → Rs} (h : Alt F) : Alt (fun K => bnd i n (F K)) := by
  unfold bnd; split
  · exact alt_c
  · exact h
theorem alt_ite {c : Prop} {F G : Kt → Rs} [i : Decidable c] (h : Alt F) (h' : Alt G) : Alt (fun K => if c then F K else G K) := by
  split
  · exact h
  · exact h'
theorem alt_mm2 {st : List Value} {f : Kt → Int32 → Int32 → List Value → Rs} (h : ∀ a b r, Alt (fun K => f K a b r)) : Alt (fun K => mm2 st (f K)) := by
  unfold mm2; split
  · split
    · exact h _ _ _
    · exact alt_c
  · exact alt_c
theorem alt_ivk (cal : Nat → List Value → Sg → Rs) (x y : Nat) (st : List Value) (σ : Sg) (tl : Cod) (ls : List Value) : Alt (fun K => ivk cal x y st σ fun r σ => K tl ls r σ) := by
  unfold ivk
  split
  · split
    · unfold acp
      refine alt_gd (alt_gd ?_)
      split
      · exact alt_c
      · exact alt_K
    · exact alt_c
  · split
    · exact alt_mm2 fun _ _ _ => alt_K
    · split
      · exact alt_mm2 fun _ _ _ => alt_K
      · split
        · unfold thk
          split
          · exact alt_bk _ _ _
          · exact alt_c
          · split
            · exact alt_gd (alt_bk _ _ _)
            · exact alt_c
        · exact alt_c
theorem alt_u1 {st : List Value} {f : Kt → Int32 → List Value → Rs} (h : ∀ a r, Alt (fun K => f K a r)) : Alt (fun K => u1 st (f K)) := by
  unfold u1; split
  · exact h _ _
  · exact alt_c
theorem alt_b2 {st : List Value} {f : Kt → Int32 → Int32 → List Value → Rs} (h : ∀ a b r, Alt (fun K => f K a b r)) : Alt (fun K => b2 st (f K)) := by
  unfold b2; split
  · exact h _ _ _
  · exact alt_c
theorem alt_l2 {st : List Value} {f : Kt → Int64 → Int64 → List Value → Rs} (h : ∀ a b r, Alt (fun K => f K a b r)) : Alt (fun K => l2 st (f K)) := by
  unfold l2; split
  · exact h _ _ _
  · exact alt_c
theorem alt_ra {st : List Value} {f : Kt → Nat → List Value → Rs} (h : ∀ a r, Alt (fun K => f K a r)) : Alt (fun K => ra st (f K)) := by
  unfold ra; split
  · exact h _ _
  · exact alt_c
theorem alt_rai {st : List Value} {f : Kt → Nat → Int32 → List Value → Rs} (h : ∀ a i r, Alt (fun K => f K a i r)) : Alt (fun K => rai st (f K)) := by
  unfold rai; split
  · exact h _ _ _
  · exact alt_c
theorem alt_raii {st : List Value} {f : Kt → Nat → Int32 → Int32 → List Value → Rs} (h : ∀ a i v r, Alt (fun K => f K a i v r)) : Alt (fun K => raii st (f K)) := by
  unfold raii; split
  · exact h _ _ _ _
  · exact alt_c
theorem alt_raij {st : List Value} {f : Kt → Nat → Int32 → Int64 → List Value → Rs} (h : ∀ a i v r, Alt (fun K => f K a i v r)) : Alt (fun K => raij st (f K)) := by
  unfold raij; split
  · exact h _ _ _ _
  · exact alt_c
theorem alt_dv {x y : Int32} {f : Kt → Int32 → Rs} (h : ∀ v, Alt (fun K => f K v)) : Alt (fun K => dvI x y (f K)) := by
  unfold dvI; exact alt_ite alt_c (h _)
theorem alt_rm {x y : Int32} {f : Kt → Int32 → Rs} (h : ∀ v, Alt (fun K => f K v)) : Alt (fun K => rmI x y (f K)) := by
  unfold rmI; exact alt_ite alt_c (h _)
theorem alt_ldI {sc : Scr} {a : Nat} {i : Int32} {σ : Sg} {f : Kt → Int32 → Rs} (h : ∀ v, Alt (fun K => f K v)) : Alt (fun K => ldX sc a i σ (f K)) := by
  unfold ldX; split
  · exact alt_bnd (h _)
  · split
    · exact alt_bnd (h _)
    · split
      · exact alt_bnd (h _)
      · exact alt_c
theorem alt_ldC {a : Nat} {i : Int32} {σ : Sg} {f : Kt → Int32 → Rs} (h : ∀ v, Alt (fun K => f K v)) : Alt (fun K => ldC a i σ (f K)) := by
  unfold ldC; split
  · exact alt_bnd (h _)
  · split
    · exact alt_bnd (h _)
    · exact alt_c
theorem alt_aln {sc : Scr} {a : Nat} {f : Kt → Int32 → Rs} (h : ∀ v, Alt (fun K => f K v)) : Alt (fun K => alX sc a (f K)) := by
  unfold alX; split
  · split
    · exact alt_c
    · exact h _
  · split
    · exact h _
    · exact alt_c
set_option maxHeartbeats 4000000 in
theorem alt_stp (sc : Scr) (cal : Nat → List Value → Sg → Rs) (cd : Cod) (it : Itm) (tl : Cod) (ls st : List Value) (σ : Sg) : Alt (fun K => stp sc cal cd K it tl ls st σ) := by
  obtain ⟨pc, ins, len, x, y, z, tb⟩ := it
  unfold stp
  dsimp only
  split
  all_goals first
    | exact alt_K
    | exact alt_c
    | exact alt_ivk cal x y st σ tl ls
    | exact alt_u1 fun _ _ => alt_K
    | exact alt_b2 fun _ _ _ => alt_K
    | exact alt_l2 fun _ _ _ => alt_K
    | exact alt_ra fun _ _ => alt_K
    | exact alt_u1 fun _ _ => alt_ite alt_K alt_K
    | exact alt_b2 fun _ _ _ => alt_ite alt_K alt_K
    | exact alt_u1 fun _ _ => alt_sw (fun _ => alt_K) alt_K _
    | exact alt_b2 fun _ _ _ => alt_dv fun _ => alt_K
    | exact alt_b2 fun _ _ _ => alt_rm fun _ => alt_K
    | exact alt_rai fun _ _ _ => alt_ldI fun _ => alt_K
    | exact alt_rai fun _ _ _ => alt_ldC fun _ => alt_K
    | exact alt_rai fun _ _ _ => alt_gd (alt_bnd alt_K)
    | exact alt_raii fun _ _ _ _ => alt_gd (alt_bnd alt_K)
    | exact alt_raij fun _ _ _ _ => alt_gd (alt_bnd alt_K)
    | exact alt_ra fun _ _ => alt_aln fun _ => alt_K
    | exact alt_ra fun _ _ => (by split <;> first | exact alt_gd alt_K | exact alt_c)
    | skip
  all_goals split
  all_goals first
    | exact alt_K
    | exact alt_c
    | skip
  all_goals split
  all_goals first
    | exact alt_K
    | exact alt_c
    | exact alt_gd alt_K
    | exact alt_gd (alt_ite alt_K alt_c)
    | skip
theorem alt_stp' (sc : Scr) (cal : Nat → List Value → Sg → Rs) (cd : Cod) (it : Itm) (tl : Cod) (ls st : List Value) (σ : Sg) : (∃ r, ∀ K, stp sc cal cd K it tl ls st σ = r) ∨ ∃ s l t g, ∀ K : Kt, stp sc cal cd K it tl ls st σ = K s l t g := alt_stp sc cal cd it tl ls st σ
/-! running: by fuel; the limit; the equation of a step -/
def run (sc : Scr) (cal : Nat → List Value → Sg → Rs) (cd : Cod) : Nat → Kt
  | 0, _, _, _, _ => none
  | _ + 1, [], _, _, _ => none
  | n + 1, it :: tl, ls, st, σ => stp sc cal cd (run sc cal cd n) it tl ls st σ
theorem run_mono {sc : Scr} {cal : Nat → List Value → Sg → Rs} {cd : Cod} : ∀ {n : Nat} {s : Cod} {ls st : List Value} {σ : Sg} {r : Option Value × Sg}, run sc cal cd n s ls st σ = some r → run sc cal cd (n + 1) s ls st σ = some r
  | 0, _, _, _, _, _, h => by cases h
  | _ + 1, [], _, _, _, _, h => by cases h
  | n + 1, it :: tl, ls, st, σ, r, h => by
    rw [run] at h ⊢
    rcases alt_stp' sc cal cd it tl ls st σ with ⟨r0, h0⟩ | ⟨s1, l1, t1, g1, h0⟩
    · rw [h0] at h ⊢; exact h
    · rw [h0] at h ⊢; exact run_mono h
theorem run_le {sc : Scr} {cal : Nat → List Value → Sg → Rs} {cd : Cod} {n k : Nat} (h : n ≤ k) {s : Cod} {ls st : List Value} {σ : Sg} {r : Option Value × Sg} (e : run sc cal cd n s ls st σ = some r) : run sc cal cd k s ls st σ = some r := by
  induction k with
  | zero => cases Nat.le_zero.mp h; exact e
  | succ k ih =>
    rcases Nat.lt_or_ge n (k + 1) with q | q
    · exact run_mono (ih (by omega))
    · have : n = k + 1 := by omega
      subst this; exact e
noncomputable def evAt (sc : Scr) (cal : Nat → List Value → Sg → Rs) (cd : Cod) (s : Cod) (ls st : List Value) (σ : Sg) : Rs :=
  @dite _ (∃ n r, run sc cal cd n s ls st σ = some r) (Classical.propDecidable _) (fun h => run sc cal cd (Classical.choose h) s ls st σ) (fun _ => none)
theorem evAt_of {sc : Scr} {cal : Nat → List Value → Sg → Rs} {cd s : Cod} {ls st : List Value} {σ : Sg} {n : Nat} {r : Option Value × Sg} (h : run sc cal cd n s ls st σ = some r) : evAt sc cal cd s ls st σ = some r := by
  have he : ∃ n r, run sc cal cd n s ls st σ = some r := ⟨n, r, h⟩
  obtain ⟨r2, h2⟩ := Classical.choose_spec he
  unfold evAt
  rw [dif_pos he]
  rcases Nat.le_total n (Classical.choose he) with q | q
  · exact run_le q h
  · have := run_le q h2
    rw [h2, ← this, h]
theorem evAt_some {sc : Scr} {cal : Nat → List Value → Sg → Rs} {cd s : Cod} {ls st : List Value} {σ : Sg} {r : Option Value × Sg} (h : evAt sc cal cd s ls st σ = some r) : ∃ n, run sc cal cd n s ls st σ = some r := by
  unfold evAt at h
  split at h
  · exact ⟨_, h⟩
  · cases h
theorem evAt_nil {sc : Scr} {cal : Nat → List Value → Sg → Rs} {cd : Cod} {ls st : List Value} {σ : Sg} : evAt sc cal cd [] ls st σ = none := by
  cases h : evAt sc cal cd [] ls st σ with
  | none => rfl
  | some r =>
    obtain ⟨n, h⟩ := evAt_some h
    cases n <;> cases h
theorem evAt_step {sc : Scr} {cal : Nat → List Value → Sg → Rs} {cd : Cod} {it : Itm} {tl : Cod} {ls st : List Value} {σ : Sg} : evAt sc cal cd (it :: tl) ls st σ = stp sc cal cd (evAt sc cal cd) it tl ls st σ := by
  rcases alt_stp' sc cal cd it tl ls st σ with ⟨r0, h0⟩ | ⟨s1, l1, t1, g1, h0⟩
  · rw [h0]
    cases r0 with
    | none =>
      cases h : evAt sc cal cd (it :: tl) ls st σ with
      | none => rfl
      | some r =>
        obtain ⟨n, h⟩ := evAt_some h
        cases n with
        | zero => cases h
        | succ n => rw [run, h0] at h; cases h
    | some r => exact evAt_of (n := 1) (by rw [run, h0])
  · rw [h0]
    cases h : evAt sc cal cd s1 l1 t1 g1 with
    | some r =>
      obtain ⟨n, h⟩ := evAt_some h
      exact evAt_of (n := n + 1) (by rw [run, h0]; exact h)
    | none =>
      cases h1 : evAt sc cal cd (it :: tl) ls st σ with
      | none => rfl
      | some r =>
        obtain ⟨n, h1⟩ := evAt_some h1
        cases n with
        | zero => cases h1
        | succ n => rw [run, h0] at h1; rw [evAt_of h1] at h; cases h
def elm : List Nat → Nat → Bool
  | [], _ => false
  | a :: t, x => match Nat.beq a x with
    | true => true
    | false => elm t x
/-- many steps, till one of the places 'cuts' -/
noncomputable def unr (sc : Scr) (cal : Nat → List Value → Sg → Rs) (cd : Cod) (cuts : List Nat) : Nat → Kt
  | 0, s, ls, st, σ => evAt sc cal cd s ls st σ
  | _ + 1, [], _, _, _ => none
  | n + 1, it :: tl, ls, st, σ => match elm cuts it.1 with
    | true => evAt sc cal cd (it :: tl) ls st σ
    | false => stp sc cal cd (unr sc cal cd cuts n) it tl ls st σ
theorem unr_eq {sc : Scr} {cal : Nat → List Value → Sg → Rs} {cd : Cod} {cuts : List Nat} : ∀ n : Nat, unr sc cal cd cuts n = evAt sc cal cd
  | 0 => rfl
  | n + 1 => by
    funext s ls st σ
    cases s with
    | nil => rw [unr, evAt_nil]
    | cons it tl =>
      rw [unr, unr_eq n]
      split
      · rfl
      · exact evAt_step.symm
noncomputable def un1 (sc : Scr) (cal : Nat → List Value → Sg → Rs) (cd : Cod) (cuts : List Nat) (n : Nat) (s : Cod) (ls st : List Value) (σ : Sg) : Rs := match s with
  | [] => none
  | it :: tl => stp sc cal cd (unr sc cal cd cuts n) it tl ls st σ
theorem evAt_un {sc : Scr} {cal : Nat → List Value → Sg → Rs} {cd : Cod} (cuts : List Nat) (n : Nat) (s : Cod) (ls st : List Value) (σ : Sg) : evAt sc cal cd s ls st σ = un1 sc cal cd cuts n s ls st σ := by
  unfold un1
  rw [unr_eq]
  cases s with
  | nil => exact evAt_nil
  | cons it tl => exact evAt_step
/-- a method's answer, with calls at most d deep -/
noncomputable def ev : Nat → Nat → List Value → Sg → Rs
  | 0, _, _, _ => none
  | d + 1, k, as, σ => match Nat.ble (lay as).length (mmL k) with
    | true => evAt sc0 (ev d) (mcd k) (mcd k) (lfl (mmL k) (lay as)) [] σ
    | false => none
