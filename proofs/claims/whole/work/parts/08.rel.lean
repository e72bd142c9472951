/-! THE REAL MACHINE AND THE SMALL ONE: a store stands in the heap at addresses of its own -/
def tr (ad : Nat → Nat) (v : Value) : Value := match v with
  | .ref a => .ref (ad a)
  | w => w
def fdV (ad : Nat → Nat) (σ : Sg) (a k y : Nat) : Value := match fk k y with
  | 1 => .ref (ad (a + ofs k y))
  | 2 => .ref (ad (σ.2.2 a y))
  | _ => .int (σ.1 a y)
def enA (cy : Nat → ClassId) (ad : Nat → Nat) (σ : Sg) (a : Nat) : va_E := match Nat.blt (SH a).1 12 with
  | true => .inr ((SH a).1, (List.range (nf (SH a).1)).map (fdV ad σ a (SH a).1))
  | false => match Nat.beq (SH a).1 15 with
    | true => .inl (cy (SH a).1, (SH a).2, .inr (.inl (σ.2.1 a)))
    | false => .inl (cy (SH a).1, (SH a).2, .inl (σ.1 a))
def wsA (cy : Nat → ClassId) (ad : Nat → Nat) (σ : Sg) : va_W := (List.range 154).map fun j => (ad (j + 4), enA cy ad σ (j + 4))
def tyA (cy : Nat → ClassId) : List (ClassId × FieldType) := [(cy 12, .byte), (cy 13, .char), (cy 14, .int), (cy 15, .long)]
def Rp (D : va_G) (cy : Nat → ClassId) (ad : Nat → Nat) (A : Nat → Prop) (σ : Sg) (H : Heap) : Prop := va_P D vwCl (wsA cy ad σ) H ∧ va_D A (wsA cy ad σ)
theorem SH_big {a : Nat} (h : 158 ≤ a) : SH a = (97, 0) := by
  have e : ∀ n, n ≤ 158 → Nat.blt a n = false := fun n hn => by
    cases hb : Nat.blt a n with
    | false => rfl
    | true => exact absurd (Nat.le_of_ble_eq_true hb) (by omega)
  unfold SH
  repeat rw [e _ (by omega)]
  rfl
theorem SH_small : ∀ a, a < 158 → Nat.ble (SH a).1 15 = true → 4 ≤ a := by decide +kernel
theorem SH_id {a : Nat} (h : (SH a).1 ≤ 15) : 4 ≤ a ∧ a < 158 := by
  rcases Nat.lt_or_ge a 158 with q | q
  · exact ⟨SH_small a q (Nat.ble_eq_true_of_le h), q⟩
  · rw [SH_big q] at h
    exact absurd h (by decide)
theorem wsA_at {cy : Nat → ClassId} {ad : Nat → Nat} {σ : Sg} {a : Nat} (h : 4 ≤ a) (h' : a < 158) : (wsA cy ad σ)[a - 4]? = some (ad a, enA cy ad σ a) := by
  unfold wsA
  rw [List.getElem?_map, List.getElem?_range (by omega)]
  simp only [Option.map_some]
  rw [show a - 4 + 4 = a by omega]
theorem wsA_set {cy : Nat → ClassId} {ad : Nat → Nat} {σ σ' : Sg} {a : Nat} (h : 4 ≤ a) (ho : ∀ b, b ≠ a → enA cy ad σ' b = enA cy ad σ b) : (wsA cy ad σ).set (a - 4) (ad a, enA cy ad σ' a) = wsA cy ad σ' := by
  unfold wsA
  apply List.ext_getElem?
  intro j
  rw [List.getElem?_set]
  by_cases hj : a - 4 = j
  · subst hj
    rw [if_pos rfl]
    simp only [List.length_map, List.length_range, List.getElem?_map]
    split
    · rename_i q
      rw [List.getElem?_range q]
      simp only [Option.map_some]
      rw [show a - 4 + 4 = a by omega]
    · rename_i q
      rw [List.getElem?_eq_none (by simpa using q)]
      rfl
  · rw [if_neg hj, List.getElem?_map, List.getElem?_map]
    rcases Nat.lt_or_ge j 154 with q | q
    · rw [List.getElem?_range q]
      simp only [Option.map_some]
      rw [ho (j + 4) (by omega)]
    · rw [List.getElem?_eq_none (by simpa using q)]
      rfl
theorem range_set {f g : Nat → Value} {n y : Nat} {w : Value} (hy : g y = w) (ho : ∀ j, j ≠ y → g j = f j) : ((List.range n).map f).set y w = (List.range n).map g := by
  apply List.ext_getElem?
  intro j
  rw [List.getElem?_set]
  by_cases hj : y = j
  · subst hj
    rw [if_pos rfl]
    simp only [List.length_map, List.length_range, List.getElem?_map]
    split
    · rename_i q
      rw [List.getElem?_range q]
      simp only [Option.map_some]
      rw [hy]
    · rename_i q
      rw [List.getElem?_eq_none (by simpa using q)]
      rfl
  · rw [if_neg hj, List.getElem?_map, List.getElem?_map]
    rcases Nat.lt_or_ge j n with q | q
    · rw [List.getElem?_range q]
      simp only [Option.map_some]
      rw [ho j (fun e => hj e.symm)]
    · rw [List.getElem?_eq_none (by simpa using q)]
      rfl
theorem enA_obj {cy : Nat → ClassId} {ad : Nat → Nat} {σ : Sg} {a k : Nat} (h : (SH a).1 = k) (hk : k < 12) : enA cy ad σ a = .inr (k, (List.range (nf k)).map (fdV ad σ a k)) := by
  unfold enA
  rw [h]
  have e : Nat.blt k 12 = true := Nat.ble_eq_true_of_le hk
  rw [e]
theorem enA_int {cy : Nat → ClassId} {ad : Nat → Nat} {σ : Sg} {a k : Nat} (h : (SH a).1 = k) (hk : k = 12 ∨ k = 13 ∨ k = 14) : enA cy ad σ a = .inl (cy k, (SH a).2, .inl (σ.1 a)) := by
  unfold enA
  rw [h]
  rcases hk with rfl | rfl | rfl <;> rfl
theorem enA_long {cy : Nat → ClassId} {ad : Nat → Nat} {σ : Sg} {a : Nat} (h : (SH a).1 = 15) : enA cy ad σ a = .inl (cy 15, (SH a).2, .inr (.inl (σ.2.1 a))) := by
  unfold enA
  rw [h]
  rfl
theorem sI_self {σ : Sg} {a i : Nat} {v : Int32} : (sI σ a i v).1 a = upd (σ.1 a) i v := by
  funext j
  by_cases h : j = i <;> simp [sI, upd, h]
theorem sI_ne {σ : Sg} {a b i : Nat} {v : Int32} (h : b ≠ a) : (sI σ a i v).1 b = σ.1 b := by
  funext j
  simp [sI, h]
theorem sJ_self {σ : Sg} {a i : Nat} {v : Int64} : (sJ σ a i v).2.1 a = vp_updL (σ.2.1 a) i v := by
  funext j
  by_cases h : j = i <;> simp [sJ, vp_updL, h]
theorem sJ_ne {σ : Sg} {a b i : Nat} {v : Int64} (h : b ≠ a) : (sJ σ a i v).2.1 b = σ.2.1 b := by
  funext j
  simp [sJ, h]
theorem sC_self {σ : Sg} {a0 a sp dp n : Nat} : (sC σ a0 a sp dp n).1 a = va_cpy (σ.1 a0) (σ.1 a) sp dp n := by
  funext j
  simp [sC, va_cpy]
theorem sC_ne {σ : Sg} {a0 a b sp dp n : Nat} (h : b ≠ a) : (sC σ a0 a sp dp n).1 b = σ.1 b := by
  funext j
  simp [sC, h]
/-- two stores that differ nowhere at a cell -/
theorem enA_congr {cy : Nat → ClassId} {ad : Nat → Nat} {σ σ' : Sg} {b : Nat} (h1 : σ'.1 b = σ.1 b) (h2 : σ'.2.1 b = σ.2.1 b) (h3 : σ'.2.2 b = σ.2.2 b) : enA cy ad σ' b = enA cy ad σ b := by
  unfold enA
  have e : ∀ k, fdV ad σ' b k = fdV ad σ b k := fun k => by funext y; unfold fdV; rw [h1, h3]
  rw [e, h1, h2]
theorem sR_at {σ : Sg} {a y v j : Nat} : (sR σ a y v).2.2 a j = if j = y then v else σ.2.2 a j := by simp [sR]
theorem sR_ne {σ : Sg} {a b y v : Nat} (h : b ≠ a) : (sR σ a y v).2.2 b = σ.2.2 b := by
  funext j; simp [sR, h]
/-! the locals -/
def Lr (ad : Nat → Nat) (ls : List Value) (lsA : Array Slot) (nL : Nat) : Prop := lv_has lsA nL [] ∧ ls.length = nL ∧ ∀ i, lgt ls i ≠ .null → lsA[i]? = some (.val (tr ad (lgt ls i)))
theorem lgt_ge : ∀ {ls : List Value} {i : Nat}, ls.length ≤ i → lgt ls i = .null
  | [], _, _ => rfl
  | _ :: _, 0, h => by simp at h
  | _ :: t, i + 1, h => lgt_ge (ls := t) (by simpa using h)
theorem lpt_len : ∀ (ls : List Value) (i : Nat) (v : Value), (lpt ls i v).length = ls.length
  | [], _, _ => rfl
  | _ :: _, 0, _ => rfl
  | _ :: t, 1, v => by show (lpt t 0 v).length + 1 = _; rw [lpt_len t 0 v]; rfl
  | _ :: t, n + 2, v => by show (lpt t (n + 1) v).length + 1 = _; rw [lpt_len t (n + 1) v]; rfl
theorem lgt_lpt : ∀ (ls : List Value) (i : Nat) (v : Value) (j : Nat), i < ls.length → lgt (lpt ls i v) j = if j = i then v else if j + 1 = i then nlg (lgt ls j) else lgt ls j
  | [], i, _, _, h => by simp at h
  | w :: t, 0, v, j, _ => by
    cases j with
    | zero => rfl
    | succ j => show lgt t j = _; simp [lgt]
  | w :: t, 1, v, j, h => by
    cases j with
    | zero => rfl
    | succ j =>
      show lgt (lpt t 0 v) j = _
      rw [lgt_lpt t 0 v j (by simpa using h)]
      by_cases h0 : j = 0
      · subst h0; simp
      · simp [h0, lgt]
  | w :: t, n + 2, v, j, h => by
    cases j with
    | zero => show w = _; simp [lgt]
    | succ j =>
      show lgt (lpt t (n + 1) v) j = _
      rw [lgt_lpt t (n + 1) v j (by have h1 : n + 2 < t.length + 1 := h; omega)]
      simp [lgt]
def lvl (ad : Nat → Nat) (ls : List Value) : List (Nat × Value) := (List.range ls.length).filterMap fun j => if lgt ls j = .null then none else some (j, tr ad (lgt ls j))
theorem lvl_mem {ad : Nat → Nat} {ls : List Value} {j : Nat} (h : lgt ls j ≠ .null) : (j, tr ad (lgt ls j)) ∈ lvl ad ls := by
  unfold lvl
  rw [List.mem_filterMap]
  refine ⟨j, ?_, by rw [if_neg h]⟩
  rw [List.mem_range]
  rcases Nat.lt_or_ge j ls.length with q | q
  · exact q
  · exact absurd (lgt_ge q) h
theorem Lr.has {ad : Nat → Nat} {ls : List Value} {lsA : Array Slot} {nL : Nat} (h : Lr ad ls lsA nL) : lv_has lsA nL (lvl ad ls) := by
  refine ⟨h.1.1, h.1.2.1, fun q hq => ?_⟩
  unfold lvl at hq
  rw [List.mem_filterMap] at hq
  obtain ⟨j, -, hj⟩ := hq
  split at hj
  · cases hj
  · rename_i hn
    cases hj
    exact h.2.2 j hn
theorem cat_nlg {ad : Nat → Nat} {w : Value} (h : nlg w ≠ .null) : nlg w = w ∧ ¬ (tr ad w).category = 2 := by
  cases w <;> first | exact absurd rfl h | exact ⟨rfl, by simp [tr, Value.category]⟩
theorem Lr.of {ad : Nat → Nat} {ls : List Value} {lsA ls' : Array Slot} {nL i : Nat} {v : Value} (h : Lr ad ls lsA nL) (hi : i < nL)
    (hh : lv_has ls' nL ((i, tr ad v) :: (lvl ad ls).filter (fun q => !(q.1 == i) && !(q.1 + 1 == i && q.2.category == 2)))) : Lr ad (lpt ls i v) ls' nL := by
  refine ⟨⟨hh.1, hh.2.1, fun q hq => absurd hq List.not_mem_nil⟩, by rw [lpt_len]; exact h.2.1, fun j hj => ?_⟩
  rw [lgt_lpt ls i v j (by rw [h.2.1]; exact hi)] at hj ⊢
  by_cases h1 : j = i
  · subst h1
    rw [if_pos rfl]
    exact hh.2.2 _ List.mem_cons_self
  · rw [if_neg h1] at hj ⊢
    by_cases h2 : j + 1 = i
    · rw [if_pos h2] at hj ⊢
      obtain ⟨e, hc⟩ := cat_nlg (ad := ad) hj
      rw [e] at hj ⊢
      refine hh.2.2 (j, tr ad (lgt ls j)) (List.mem_cons_of_mem _ (List.mem_filter.mpr ⟨lvl_mem hj, ?_⟩))
      simp [h1, hc]
    · rw [if_neg h2] at hj ⊢
      refine hh.2.2 (j, tr ad (lgt ls j)) (List.mem_cons_of_mem _ (List.mem_filter.mpr ⟨lvl_mem hj, ?_⟩))
      simp [h1, h2]
theorem lvl_at {ad : Nat → Nat} {ls : List Value} {i : Nat} {x : Int32} (h : lgt ls i = .int x) : ∃ k : Nat, (lvl ad ls)[k]? = some (i, Value.int x) := by
  have h1 : (i, tr ad (lgt ls i)) ∈ lvl ad ls := lvl_mem (by rw [h]; exact fun e => by cases e)
  rw [h] at h1
  exact List.getElem?_of_mem h1
theorem Lr.int {ad : Nat → Nat} {ls : List Value} {lsA : Array Slot} {nL i : Nat} {x : Int32} (h : Lr ad ls lsA nL) (e : lgt ls i = .int x) : lsA[i]? = some (.val (.int x)) := by
  have := h.2.2 i (by rw [e]; exact fun q => by cases q)
  rwa [e] at this
theorem Lr.long {ad : Nat → Nat} {ls : List Value} {lsA : Array Slot} {nL i : Nat} {x : Int64} (h : Lr ad ls lsA nL) (e : lgt ls i = .long x) : lsA[i]? = some (.val (.long x)) := by
  have := h.2.2 i (by rw [e]; exact fun q => by cases q)
  rwa [e] at this
theorem Lr.ref {ad : Nat → Nat} {ls : List Value} {lsA : Array Slot} {nL i x : Nat} (h : Lr ad ls lsA nL) (e : lgt ls i = .ref x) : lsA[i]? = some (.val (.ref (ad x))) := by
  have := h.2.2 i (by rw [e]; exact fun q => by cases q)
  rwa [e] at this
theorem lgt_lfl : ∀ (n : Nat) (l : List Value) (j : Nat), lgt (lfl n l) j ≠ .null → lgt (lfl n l) j = lgt l j
  | 0, _, _, h => absurd rfl h
  | n + 1, [], j, h => by
    cases j with
    | zero => exact absurd rfl h
    | succ j =>
      have := lgt_lfl n [] j h
      show lgt (lfl n []) j = .null
      rw [this]; rfl
  | n + 1, v :: t, j, h => by
    cases j with
    | zero => rfl
    | succ j => exact lgt_lfl n t j h
theorem lfl_len : ∀ (n : Nat) (l : List Value), (lfl n l).length = n
  | 0, _ => rfl
  | n + 1, [] => by show (lfl n []).length + 1 = _; rw [lfl_len n]
  | n + 1, _ :: t => by show (lfl n t).length + 1 = _; rw [lfl_len n]
theorem lay_args {ad : Nat → Nat} : ∀ (as : List Value) (o j : Nat), lgt (lay as) j ≠ .null → (o + j, tr ad (lgt (lay as) j)) ∈ lv_args o (as.map (tr ad))
  | [], _, _, h => absurd rfl h
  | v :: t, o, j, h => by
    have ih := lay_args (ad := ad) t
    cases v with
    | long x =>
      match j, h with
      | 0, _ => exact List.mem_cons_self
      | 1, h => exact absurd rfl h
      | j + 2, h =>
        have := ih (o + 2) j h
        rw [show o + 2 + j = o + (j + 2) by omega] at this
        exact List.mem_cons_of_mem _ this
    | double x =>
      match j, h with
      | 0, _ => exact List.mem_cons_self
      | 1, h => exact absurd rfl h
      | j + 2, h =>
        have := ih (o + 2) j h
        rw [show o + 2 + j = o + (j + 2) by omega] at this
        exact List.mem_cons_of_mem _ this
    | _ =>
      match j, h with
      | 0, _ => exact List.mem_cons_self
      | j + 1, h =>
        have := ih (o + 1) j h
        rw [show o + 1 + j = o + (j + 1) by omega] at this
        exact List.mem_cons_of_mem _ this
theorem lay_len {ad : Nat → Nat} : ∀ as : List Value, (lg_sl (as.map (tr ad))).length = (lay as).length
  | [] => rfl
  | v :: t => by
    have ih := lay_len (ad := ad) t
    have e : ∀ (w : Value) (r : List Value), (lg_sl (w :: r)).length = (if w.category = 2 then 2 else 1) + (lg_sl r).length := fun w r => by
      unfold lg_sl
      rw [List.flatMap_cons, List.length_append]
      split <;> rfl
    rw [List.map_cons, e, ih]
    cases v <;> simp [lay, tr, Value.category] <;> omega
theorem Lr.start {ad : Nat → Nat} {as : List Value} {n : Nat} (h : (lay as).length ≤ n) : Lr ad (lfl n (lay as)) ((lg_sl (as.map (tr ad)) ++ List.replicate (n - (lg_sl (as.map (tr ad))).length) Slot.unset).toArray) n := by
  have h0 := lv_entry (as.map (tr ad)) (n := n) (by rw [lay_len]; exact h)
  refine ⟨⟨h0.1, h0.2.1, fun q hq => absurd hq List.not_mem_nil⟩, lfl_len n _, fun i hi => ?_⟩
  have e := lgt_lfl n _ i hi
  rw [e] at hi ⊢
  have := lay_args (ad := ad) as 0 i hi
  rw [Nat.zero_add] at this
  exact h0.2.2 _ this
