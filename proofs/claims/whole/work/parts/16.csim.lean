/-! the constructors on the real machine -/
theorem rtr_app {al l2 : List Nat} {v : Value} (h : iok al.length v = true) : rtr (al ++ l2) v = rtr al v := by
  cases v with
  | ref a =>
    obtain ⟨h1, h2⟩ := an h
    have h1 := Nat.le_of_ble_eq_true h1
    have h2 := bltN h2
    show Value.ref _ = Value.ref _
    congr 1
    rw [List.getD_eq_getElem?_getD, List.getD_eq_getElem?_getD, List.getElem?_append_left (by omega)]
  | _ => rfl
theorem map_rtr {al l2 : List Nat} {st : List Value} (h : st.all (iok al.length) = true) : st.map (rtr (al ++ l2)) = st.map (rtr al) := by
  refine List.map_congr_left fun v hv => rtr_app (List.all_eq_true.mp h v hv)
theorem rent_app {cy : Nat → ClassId} {al l2 : List Nat} {en : CE} (h : en.2.2.1.all (iok al.length) = true) : rent cy (al ++ l2) en = rent cy al en := by
  unfold rent
  rw [map_rtr h]
theorem rws_app {cy : Nat → ClassId} {al l2 : List Nat} {w w2 : Wl} (hl : al.length = w.length) (h : wok w = true) : rws cy (al ++ l2) (w ++ w2) = rws cy al w ++ (l2.zip w2).map (fun q => (q.1, rent cy (al ++ l2) q.2)) := by
  unfold rws
  rw [List.zip_append hl, List.map_append]
  congr 1
  refine List.map_congr_left fun q hq => ?_
  have h1 := List.all_eq_true.mp h q.2 (List.of_mem_zip hq).2
  rw [← hl] at h1
  rw [rent_app h1]
theorem rws_at {cy : Nat → ClassId} {al : List Nat} {w : Wl} (hl : al.length = w.length) {i : Nat} {en : CE} (h : w[i]? = some en) : (rws cy al w)[i]? = some (al.getD i 0, rent cy al en) := by
  have hi : i < w.length := (List.getElem?_eq_some_iff.mp h).1
  unfold rws
  have h1 : (al.zip w)[i]? = some (al.getD i 0, en) := by
    rw [List.getElem?_zip_eq_some]
    refine ⟨?_, h⟩
    show al[i]? = some (al.getD i 0)
    rw [List.getD_eq_getElem?_getD, List.getElem?_eq_getElem (by omega)]
    rfl
  rw [List.getElem?_map, h1]
  rfl
theorem rws_set {cy : Nat → ClassId} {al : List Nat} {w : Wl} (hl : al.length = w.length) {i : Nat} (hi : i < w.length) (en : CE) : (rws cy al w).set i (al.getD i 0, rent cy al en) = rws cy al (w.set i en) := by
  apply List.ext_getElem?
  intro j
  rw [List.getElem?_set]
  have hlen : (rws cy al w).length = w.length := by unfold rws; simp; omega
  by_cases hj : i = j
  · subst hj
    rw [if_pos rfl, if_pos (by omega)]
    exact (rws_at (w := w.set i en) (by simpa using hl) (by rw [List.getElem?_set]; simp [hi])).symm
  · rw [if_neg hj]
    cases hw : w[j]? with
    | none =>
      have : w.length ≤ j := by simpa using hw
      rw [List.getElem?_eq_none (by omega), List.getElem?_eq_none (by unfold rws; simp; omega)]
    | some e2 => rw [rws_at hl hw, rws_at (w := w.set i en) (by simpa using hl) (en := e2) (by rw [List.getElem?_set, if_neg hj]; exact hw)]
def Lc (al : List Nat) (ls : List Value) (lsA : Array Slot) (nL : Nat) : Prop := lv_has lsA nL [] ∧ ls.length = nL ∧ ∀ i, lgt ls i ≠ .null → lsA[i]? = some (.val (rtr al (lgt ls i)))
theorem Lc.of_app {al l2 : List Nat} {ls : List Value} {lsA : Array Slot} {nL : Nat} (h : Lc al ls lsA nL) (hk : ls.all (iok al.length) = true) : Lc (al ++ l2) ls lsA nL := by
  refine ⟨h.1, h.2.1, fun i hi => ?_⟩
  rw [h.2.2 i hi]
  congr 2
  have : ∀ (l : List Value) (i : Nat), l.all (iok al.length) = true → rtr (al ++ l2) (lgt l i) = rtr al (lgt l i) := by
    intro l
    induction l with
    | nil => intro i _; rfl
    | cons v t ih =>
      intro i hl
      obtain ⟨a, b⟩ := an (show (iok al.length v && t.all (iok al.length)) = true from hl)
      cases i with
      | zero => exact rtr_app a
      | succ i => exact ih i b
  exact (this ls i hk).symm
def CI (D : va_G) (cy : Nat → ClassId) (A : Nat → Prop) (al : List Nat) (w : Wl) (H : Heap) : Prop := va_P D vwCl (rws cy al w) H ∧ va_D A (rws cy al w) ∧ al.length = w.length
def PrC (D : va_G) (cy : Nat → ClassId) (A : Nat → Prop) (al : List Nat) (as : List Value) (w : Wl) : Array Value → State → Prop := va_Pc (as.map (rtr al)) (fun U => va_K D vwCl (tyA cy) U ∧ CI D cy A al w U.heap ∧ NWs U ∧ ∀ q, U.heap.size ≤ q → A q)
def PoC (D : va_G) (cy : Nat → ClassId) (A : Nat → Prop) (al : List Nat) (w' : Wl) : Array Value → State → Outcome → State → Prop :=
  va_Qv (fun (l2 : List Nat) => True) (fun l2 t => va_K D vwCl (tyA cy) t ∧ CI D cy A (al ++ l2) w' t.heap) A
def mrc (k d : Nat) : Room := { frames := d, cells := (ccl k).1, slots := (ccl k).2, locals := 60 * d }
def ConOK (l : Launch) (D : va_G) (cy : Nat → ClassId) (A : Nat → Prop) (cal : Nat → List Value → Wl → Option Wl) (d : Nat) : Prop :=
  ∀ x al as w w', x < 340 → okB x = true → (mY x).name = "<init>" → mret x = none → cal x as w = some w' → Met l (mY x) (mws x) (mrc x d) (PrC D cy A al as w) (PoC D cy A al w') (ccl x).1 (ccl x).2 A
/-- new arrays are of the classes that the tables name -/
theorem ty_eq {cy : Nat → ClassId} {D : va_G} {s : State} {cA : ClassId} {ty : FieldType} {k : Nat} (hK : va_K D vwCl (tyA cy ++ [(cA, ty)]) s) {c0 : ClassId} (hk : (tyA cy)[k]? = some (c0, ty)) (hty : ∀ C, ty ≠ .object C) : cA = c0 := by
  have hlt : k < (tyA cy).length := (List.getElem?_eq_some_iff.mp hk).1
  have h1 := (hK.2 k (c0, ty) (by rw [List.getElem?_append_left hlt]; exact hk)).2
  have h2 := (hK.2 (tyA cy).length (cA, ty) (by rw [List.getElem?_append_right (Nat.le_refl _)]; simp)).2
  unfold va_RA at h1 h2
  cases ty <;> first | exact absurd rfl (hty _) | exact Option.some.inj (h2.symm.trans h1)
theorem kd_own : ∀ x, x < 12 → ∀ y, y < nf x → (kT x y).1 = ocl x := by decide +kernel
theorem dfl_ok : ∀ x, x < 12 → ∀ y, y < nf x → defaultValue (kY x y) = vp_V (dfl x) y := by decide +kernel
