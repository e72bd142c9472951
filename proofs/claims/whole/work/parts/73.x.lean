/-! rows of names by numbers -/
def fac : Nat → Nat
  | 0 => 1
  | k + 1 => (k + 1) * fac k
def uAt (us : List Nat) : Nat → Nat → Nat → Nat
  | 0, _, _ => 0
  | k + 1, nm, left => if us.elem nm = true then uAt us k (nm + 1) left else if left = 0 then nm else uAt us k (nm + 1) (left - 1)
def upk : Nat → Nat → List Nat → List Nat
  | 0, _, us => us
  | k + 1, rest, us => upk k (rest % fac k) (uAt us 6 0 (rest / fac k) :: us)
def pck : List Nat → Nat
  | [] => 0
  | a :: t => t.countP (fun b => decide (b < a)) * fac t.length + pck t
def allP (n : Nat) (P : List Nat → Bool) : Nat → List Nat → Bool
  | 0, pre => P pre.reverse
  | k + 1, pre => (List.range n).all fun v => pre.elem v || allP n P k (v :: pre)
theorem allP_sound {n : Nat} {P : List Nat → Bool} : ∀ (k : Nat) (pre s : List Nat), allP n P k pre = true → s.length = k → (∀ v, v ∈ s → v < n) → s.Nodup → (∀ v, v ∈ s → v ∉ pre) → P (pre.reverse ++ s) = true
  | 0, pre, s, h, hs, _, _, _ => by
    obtain rfl := List.eq_nil_of_length_eq_zero hs
    rw [List.append_nil]; exact h
  | k + 1, pre, [], h, hs, _, _, _ => by cases hs
  | k + 1, pre, v :: t, h, hs, hn, hd, hp => by
    have h1 := List.all_eq_true.mp h v (List.mem_range.mpr (hn v List.mem_cons_self))
    have h2 := hp v List.mem_cons_self
    rw [List.nodup_cons] at hd
    have h3 : pre.elem v = false := by
      cases q : pre.elem v with
      | false => rfl
      | true => exact absurd (List.elem_iff.mp q) h2
    rw [h3, Bool.false_or] at h1
    have := allP_sound k (v :: pre) t h1 (by simpa using hs) (fun u hu => hn u (List.mem_cons_of_mem _ hu)) hd.2 (fun u hu q => by
      rcases List.mem_cons.mp q with rfl | q
      · exact hd.1 hu
      · exact hp u (List.mem_cons_of_mem _ hu) q)
    rw [List.reverse_cons, List.append_assoc] at this
    exact this
def okP (n : Nat) (p : List Nat) : Bool := Nat.blt (pck p) (fac n) && (upk n (pck p) []).reverse == p
theorem okP_6 : allP 6 (okP 6) 6 [] = true := by decide +kernel
theorem okP_5 : allP 5 (okP 5) 5 [] = true := by decide +kernel
theorem okP_4 : allP 4 (okP 4) 4 [] = true := by decide +kernel
theorem okP_3 : allP 3 (okP 3) 3 [] = true := by decide +kernel
theorem okP_2 : allP 2 (okP 2) 2 [] = true := by decide +kernel
def rLf (g : Int → Int) : Nat → Int → List Nat
  | 0, _ => []
  | k + 1, i => (g i).toNat :: rLf g k (i + 1)
theorem rLf_len (g : Int → Int) : ∀ (k : Nat) (i : Int), (rLf g k i).length = k
  | 0, _ => rfl
  | k + 1, i => by rw [rLf, List.length_cons, rLf_len g k]
theorem rLf_mem {g : Int → Int} {v : Nat} : ∀ (k : Nat) (i : Int), v ∈ rLf g k i → ∃ j, i ≤ j ∧ j < i + k ∧ v = (g j).toNat
  | 0, _, h => by cases h
  | k + 1, i, h => by
    rcases List.mem_cons.mp h with rfl | h
    · exact ⟨i, Int.le_refl _, by omega, rfl⟩
    · obtain ⟨j, j1, j2, j3⟩ := rLf_mem k (i + 1) h
      exact ⟨j, by omega, by omega, j3⟩
theorem rLf_nd {n : Int} {g : Int → Int} (h : onN n g) : ∀ (k : Nat) (i : Int), 0 ≤ i → i + k ≤ n → (rLf g k i).Nodup
  | 0, _, _, _ => List.nodup_nil
  | k + 1, i, i0, hk => by
    rw [rLf, List.nodup_cons]
    refine ⟨fun q => ?_, rLf_nd h k (i + 1) (by omega) (by omega)⟩
    obtain ⟨j, j1, j2, j3⟩ := rLf_mem k (i + 1) q
    have a := h.1 i i0 (by omega); have b := h.1 j (by omega) (by omega)
    have := h.2 i j i0 (by omega) (by omega) (by omega) (by omega)
    omega
theorem rLf_get {g : Int → Int} : ∀ (k : Nat) (i : Int) (j : Nat), j < k → (rLf g k i)[j]? = some (g (i + j)).toNat
  | 0, _, _, h => by omega
  | k + 1, i, 0, _ => by rw [rLf, List.getElem?_cons_zero]; simp
  | k + 1, i, j + 1, h => by
    rw [rLf, List.getElem?_cons_succ, rLf_get k (i + 1) j (by omega)]
    rw [show i + 1 + (j : Int) = i + ((j + 1 : Nat) : Int) by omega]
theorem rLf_congr {g h : Int → Int} : ∀ (k : Nat) (i : Int), (∀ x, i ≤ x → x < i + k → g x = h x) → rLf g k i = rLf h k i
  | 0, _, _ => rfl
  | k + 1, i, e => by rw [rLf, rLf, e i (Int.le_refl _) (by omega), rLf_congr k (i + 1) fun x x0 x1 => e x (by omega) (by omega)]
def EqN (n : Int) (g h : Int → Int) : Prop := ∀ x, 0 ≤ x → x < n → g x = h x
/-- the number of a row -/
def nr (n : Int) (g : Int → Int) : Nat := pck (rLf g n.toNat 0)
theorem nr_ok {n : Int} {g : Int → Int} (n2 : 2 ≤ n) (n6 : n ≤ 6) (h : onN n g) : nr n g < fac n.toNat ∧ (upk n.toNat (nr n g) []).reverse = rLf g n.toNat 0 := by
  have hl := rLf_len g n.toNat 0
  have hm : ∀ v, v ∈ rLf g n.toNat 0 → v < n.toNat := fun v hv => by
    obtain ⟨j, j1, j2, rfl⟩ := rLf_mem _ _ hv
    have := h.1 j j1 (by omega); omega
  have hd := rLf_nd h n.toNat 0 (by decide) (by omega)
  have key : okP n.toNat (rLf g n.toNat 0) = true := by
    have go : allP n.toNat (okP n.toNat) n.toNat [] = true := by
      rcases (show n.toNat = 2 ∨ n.toNat = 3 ∨ n.toNat = 4 ∨ n.toNat = 5 ∨ n.toNat = 6 by omega) with e | e | e | e | e <;> rw [e]
      · exact okP_2
      · exact okP_3
      · exact okP_4
      · exact okP_5
      · exact okP_6
    have := allP_sound n.toNat [] (rLf g n.toNat 0) go hl hm hd (fun v _ q => by cases q)
    simpa using this
  unfold okP at key
  rw [Bool.and_eq_true] at key
  exact ⟨Nat.le_of_ble_eq_true key.1, eq_of_beq key.2⟩
theorem nr_inj {n : Int} {g h : Int → Int} (n2 : 2 ≤ n) (n6 : n ≤ 6) (hg : onN n g) (hh : onN n h) : nr n g = nr n h ↔ EqN n g h := by
  constructor
  · intro e x x0 x1
    have e1 := (nr_ok n2 n6 hg).2
    have e2 := (nr_ok n2 n6 hh).2
    rw [e, e2] at e1
    have := congrArg (fun l : List Nat => l[x.toNat]?) e1
    rw [rLf_get _ _ _ (by omega), rLf_get _ _ _ (by omega)] at this
    have := Option.some.inj this
    rw [Int.zero_add, toNat_c x0] at this
    have a := hg.1 x x0 x1; have b := hh.1 x x0 x1
    omega
  · intro e
    unfold nr
    rw [rLf_congr _ _ fun x x0 x1 => e x x0 (by omega)]
theorem fac_bd : ∀ n : Nat, n ≤ 6 → 1 ≤ fac n ∧ fac n ≤ 720 := by
  intro n h
  rcases (show n = 0 ∨ n = 1 ∨ n = 2 ∨ n = 3 ∨ n = 4 ∨ n = 5 ∨ n = 6 by omega) with e | e | e | e | e | e | e <;> subst e <;> decide
theorem FC_fac : ∀ n : Nat, n ≤ 6 → FC 2 n = zI ((fac n : Nat) : Int) := by
  intro n h
  rcases (show n = 0 ∨ n = 1 ∨ n = 2 ∨ n = 3 ∨ n = 4 ∨ n = 5 ∨ n = 6 by omega) with e | e | e | e | e | e | e <;> subst e <;> decide +kernel
theorem upk_app : ∀ (k rest : Nat) (us : List Nat), ∃ t, t.length = k ∧ upk k rest us = t ++ us
  | 0, _, us => ⟨[], rfl, rfl⟩
  | k + 1, rest, us => by
    obtain ⟨t, h1, h2⟩ := upk_app k (rest % fac k) (uAt us 6 0 (rest / fac k) :: us)
    exact ⟨t ++ [uAt us 6 0 (rest / fac k)], by simp [h1], by rw [upk, h2]; simp⟩
theorem uAt_lt (us : List Nat) : ∀ (k nm left : Nat), uAt us k nm left < nm + k ∨ uAt us k nm left = 0
  | 0, _, _ => Or.inr rfl
  | k + 1, nm, left => by
    unfold uAt
    have a := uAt_lt us k (nm + 1) left
    have b := uAt_lt us k (nm + 1) (left - 1)
    split
    · omega
    · split <;> omega
theorem unusedAt_sp {σ : Sg} {d : Nat} {S : Int32} {us : List Nat} (hS : ∀ y : Int, 0 ≤ y → y < 6 → gb S y = us.elem y.toNat) {left : Nat} (hl : left ≤ 1000) : f_Changes_unusedAt (d + 1) S (zI (left : Int)) σ = rI (zI ((uAt us 6 0 left : Nat) : Int)) σ := by
  have main : ∀ (k nm left : Nat) (v : Value), nm + k = 6 → left ≤ 1000 → f_Changes_unusedAt_4 d S v (zI (left : Int)) (zI (nm : Int)) σ = rI (zI ((uAt us k nm left : Nat) : Int)) σ := by
    intro k
    induction k with
    | zero =>
      intro nm left v h _
      have : nm = 6 := by omega
      subst this
      rw [f_Changes_unusedAt_4_eq, if_neg (by decide), zI_0]; rfl
    | succ k ih =>
      intro nm left v h hl
      have e := hS (nm : Int) (by omega) (by omega)
      rw [Int.toNat_natCast] at e
      rw [f_Changes_unusedAt_4_eq, show (6 : Int32) = zI 6 from zI_lit 6, if_pos (by rw [zI_le (by omega) (by omega)]; omega), show (31 : Int32) = zI 31 from zI_lit 31, show (1 : Int32) = zI 1 from zI_lit 1, sh_bz S (by omega) (by omega), zI_0, zI_add, e]
      unfold uAt
      cases us.elem nm with
      | true =>
        rw [bz_tt, if_neg (by decide), if_pos rfl]
        exact ih (nm + 1) left _ (by omega) hl
      | false =>
        rw [bz_ff, if_pos rfl, if_neg Bool.false_ne_true]
        by_cases z : left = 0
        · subst z; rw [if_pos (show zI ((0 : Nat) : Int) = zI 0 from rfl), if_pos rfl]
        · rw [if_neg (by rw [zI_eq (by omega) (by decide)]; omega), if_neg z, zI_neg, zI_add, show (left : Int) + -1 = ((left - 1 : Nat) : Int) by omega]
          exact ih (nm + 1) (left - 1) _ (by omega) (by omega)
  rw [f_Changes_unusedAt_eq, zI_0]
  exact main 6 0 left _ (by omega) hl
theorem unpack_sp {σ : Sg} {d : Nat} {a : Nat} (ha : SH a = (14, 6)) {n : Int} (n0 : 2 ≤ n) (n6 : n ≤ 6) {num : Nat} (hn : num < 1000) {p : Int → Int} (hp : onN n p) (e : (upk n.toNat num []).reverse = rLf p n.toNat 0) : ∃ σ', f_Changes_unpack (d + 2) (zI (num : Int)) a (zI n) σ = rV σ' ∧ Fr (fun b _ => b == a) σ σ' ∧ ∀ x, 0 ≤ x → x < n → σ'.1 a x.toNat = zI (p x) := by
  have main : ∀ (k : Nat) (pos : Int) (rest : Nat) (us : List Nat) (S : Int32) (v0 v1 v2 v3 : Value) (τ : Sg), pos + k = n → 0 ≤ pos → rest < 1000 → (us.length : Int) = pos → (upk k rest us).reverse = rLf p n.toNat 0 → (∀ y : Int, 0 ≤ y → y < 6 → gb S y = us.elem y.toNat) → Fr (fun b _ => b == a) σ τ → (∀ x, 0 ≤ x → x < pos → τ.1 a x.toNat = zI (p x)) → ∃ σ', f_Changes_unpack_8 (d + 1) v0 a (zI n) (zI (rest : Int)) S (zI pos) v1 v2 v3 τ = rV σ' ∧ Fr (fun b _ => b == a) σ σ' ∧ ∀ x, 0 ≤ x → x < n → σ'.1 a x.toNat = zI (p x) := by
    intro k
    induction k with
    | zero =>
      intro pos rest us S v0 v1 v2 v3 τ hk p0 hr hu he hS F hτ
      have : pos = n := by omega
      subst this
      refine ⟨τ, ?_, F, hτ⟩
      rw [f_Changes_unpack_8_eq, if_neg Int32.lt_irrefl]
    | succ k ih =>
      intro pos rest us S v0 v1 v2 v3 τ hk p0 hr hu he hS F hτ
      have fb := fac_bd k (by omega)
      have lt := Nat.mod_lt rest (show fac k > 0 by omega)
      have dv : rest / fac k ≤ 1000 := Nat.le_trans (Nat.div_le_self _ _) (by omega)
      have un := unusedAt_sp (σ := τ) (d := d) hS dv
      have ex : n - 1 - pos = (k : Int) := by omega
      have uv : uAt us 6 0 (rest / fac k) = (p pos).toNat := by
        obtain ⟨t, t1, t2⟩ := upk_app k (rest % fac k) (uAt us 6 0 (rest / fac k) :: us)
        rw [upk, t2] at he
        have := congrArg (fun l : List Nat => l[pos.toNat]?) he
        have hlen : pos.toNat = us.reverse.length := by rw [List.length_reverse]; omega
        rw [rLf_get _ _ _ (by omega), List.reverse_append, List.reverse_cons, List.append_assoc] at this
        rw [hlen] at this
        simp at this
        rw [this, hu]
      have pb := hp.1 pos p0 (by omega)
      obtain ⟨σ', a1, a2, a3⟩ := ih (pos + 1) (rest % fac k) (uAt us 6 0 (rest / fac k) :: us) (S ||| (zI 1 <<< (zI ((uAt us 6 0 (rest / fac k) : Nat) : Int) &&& zI 31))) v0 (.int (zI ((fac k : Nat) : Int))) (.int (zI ((rest / fac k : Nat) : Int))) (.int (zI ((uAt us 6 0 (rest / fac k) : Nat) : Int))) (sI τ a pos.toNat (zI ((uAt us 6 0 (rest / fac k) : Nat) : Int))) (by omega) (by omega) (by omega) (by rw [List.length_cons]; omega) he (fun y y0 y1 => by
        rw [gb_or, hS y y0 y1, gb_sh (by omega) (by omega) y0 (by omega), List.elem_cons]
        rw [Bool.or_comm]
        congr 1
        rw [Bool.eq_iff_iff]; simp; omega) (F.sI _ (by simp)) fun x x0 x1 => by
        by_cases q : x = pos
        · subst q; rw [sI_same, uv, toNat_c pb.1]
        · rw [sI_slot _ _ _ _ (by omega)]; exact hτ x x0 (by omega)
      refine ⟨σ', ?_, a2, a3⟩
      have hk6 : k ≤ 6 := by omega
      rw [f_Changes_unpack_8_eq, if_pos (by rw [zI_le (by omega) (by omega)]; omega), show (1 : Int32) = zI 1 from zI_lit 1, zI_sub, zI_sub, ex, bnd_zI (by omega) (by omega) (by omega), ix_zI (by omega) (by omega), Int.toNat_natCast, FC_fac k hk6, dvI_nn (by omega) (by omega) (by omega) (by omega), rmI_nn (by omega) (by omega) (by omega) (by omega)]
      rw [show ((rest : Int) / ((fac k : Nat) : Int)) = ((rest / fac k : Nat) : Int) from rfl, show ((rest : Int) % ((fac k : Nat) : Int)) = ((rest % fac k : Nat) : Int) from rfl, un, cI_rI, stI_of ha p0 (by omega) (by omega), zI_add, show (31 : Int32) = zI 31 from zI_lit 31]
      exact a1
  rw [f_Changes_unpack_eq, zI_0]
  exact main n.toNat 0 num [] (zI 0) _ _ _ _ σ (by omega) (by decide) hn rfl e (fun y y0 y1 => by rw [gb_0]; rfl) (Fr.rf _ _) fun x x0 x1 => by omega
