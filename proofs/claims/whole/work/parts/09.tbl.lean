/-! what the tables say, for the words that are used -/
theorem an {a b : Bool} (h : (a && b) = true) : a = true ∧ b = true := by cases a <;> cases b <;> simp_all
theorem orr {a b : Bool} (h : (a || b) = true) : a = true ∨ b = true := by cases a <;> cases b <;> simp_all
theorem beqN {a b : Nat} (h : Nat.beq a b = true) : a = b := Nat.eq_of_beq_eq_true h
theorem bltN {a b : Nat} (h : Nat.blt a b = true) : a < b := Nat.le_of_ble_eq_true h
abbrev TBg : List Cond := lw_tbl.filter goodWord
theorem mem_good {w : Cond} (h : w ∈ lw_tbl) (g : goodWord w = true) : w ∈ TBg := List.mem_filter.mpr ⟨h, g⟩
theorem tb_app (w : Cond) (h : w ∈ tables_1) : w ∈ lw_tbl := List.mem_append_right _ h
theorem qs_in : ∀ q ∈ QS, dw q ∈ lw_tbl := by
  intro q hq
  unfold QS at hq
  rcases List.mem_append.mp hq with h | h
  · exact List.mem_append_left _ (by rw [← qs_0]; exact List.mem_map.mpr ⟨q, h, rfl⟩)
  refine tb_app _ ?_
  unfold tables_1
  rcases List.mem_append.mp h with h | h
  · exact List.mem_append_left _ (dw_in qs_1 q h)
  rcases List.mem_append.mp h with h | h
  · exact List.mem_append_right _ (List.mem_append_left _ (dw_in qs_2 q h))
  rcases List.mem_append.mp h with h | h
  · exact List.mem_append_right _ (List.mem_append_right _ (List.mem_append_left _ (dw_in qs_3 q h)))
  rcases List.mem_append.mp h with h | h
  · exact List.mem_append_right _ (List.mem_append_right _ (List.mem_append_right _ (List.mem_append_left _ (dw_in qs_4 q h))))
  rcases List.mem_append.mp h with h | h
  · exact List.mem_append_right _ (List.mem_append_right _ (List.mem_append_right _ (List.mem_append_right _ (List.mem_append_left _ (dw_in qs_5 q h)))))
  rcases List.mem_append.mp h with h | h
  · exact List.mem_append_right _ (List.mem_append_right _ (List.mem_append_right _ (List.mem_append_right _ (List.mem_append_right _ (List.mem_append_left _ (dw_in qs_6 q h))))))
  rcases List.mem_append.mp h with h | h
  · exact List.mem_append_right _ (List.mem_append_right _ (List.mem_append_right _ (List.mem_append_right _ (List.mem_append_right _ (List.mem_append_right _ (List.mem_append_left _ (dw_in qs_7 q h)))))))
  rcases List.mem_append.mp h with h | h
  · exact List.mem_append_right _ (List.mem_append_right _ (List.mem_append_right _ (List.mem_append_right _ (List.mem_append_right _ (List.mem_append_right _ (List.mem_append_right _ (List.mem_append_left _ (dw_in qs_8 q h))))))))
  exact List.mem_append_right _ (List.mem_append_right _ (List.mem_append_right _ (List.mem_append_right _ (List.mem_append_right _ (List.mem_append_right _ (List.mem_append_right _ (List.mem_append_right _ (dw_in qs_9 q h))))))))
theorem wd_of {p : Nat} {q : Qw} (h : wdi p q = true) : dw q ∈ lw_tbl := qs_in q (List.mem_of_getElem? (of_decide_eq_true h))
theorem wx_of {p : Nat} {w : Cond} (h : wdx p w = true) : w ∈ lw_tbl := spx_in w (List.mem_of_getElem? (of_decide_eq_true h))
def kT (x : Nat) : u_T := match vwCl[x]? with
  | some q => q.2.1
  | none => fun _ => ("", "", "", false)
theorem fnm_kT (x y : Nat) : fnm x y = kT x y := by unfold fnm kT; generalize vwCl[x]? = o; cases o <;> rfl
theorem vw_at : ∀ x, x < 12 → vwCl[x]? = some (ocl x, kT x, nf x)
  | 0, _ => rfl
  | 1, _ => rfl
  | 2, _ => rfl
  | 3, _ => rfl
  | 4, _ => rfl
  | 5, _ => rfl
  | 6, _ => rfl
  | 7, _ => rfl
  | 8, _ => rfl
  | 9, _ => rfl
  | 10, _ => rfl
  | 11, _ => rfl
  | n + 12, h => absurd h (by omega)
def kY (x : Nat) : Nat → FieldType := match x with
  | 0 => tyX0
  | 1 => tyX1
  | 2 => tyX2
  | 3 => tyX4
  | 4 => tyX5
  | 5 => tyX6
  | 6 => tyX7
  | 7 => tyX8
  | 8 => tyX9
  | 9 => tyX10
  | 10 => tyX11
  | 11 => tyX12
  | _ => fun _ => .int
theorem kY_ok : ∀ x, x < 12 → ∀ k, k < nf x → parseFieldDescriptor (kT x k).2.2.1 = some (kY x k)
  | 0, _ => tyX0_ok
  | 1, _ => tyX1_ok
  | 2, _ => tyX2_ok
  | 3, _ => tyX4_ok
  | 4, _ => tyX5_ok
  | 5, _ => tyX6_ok
  | 6, _ => tyX7_ok
  | 7, _ => tyX8_ok
  | 8, _ => tyX9_ok
  | 9, _ => tyX10_ok
  | 10, _ => tyX11_ok
  | 11, _ => tyX12_ok
  | n + 12, h => absurd h (by omega)
theorem kN_ok : ∀ x, x < 12 → ∀ a, a < nf x → ∀ b, b < nf x → a ≠ b → (kT x a).2.1 ≠ (kT x b).2.1
  | 0, _ => nmX0
  | 1, _ => nmX1
  | 2, _ => nmX2
  | 3, _ => nmX4
  | 4, _ => nmX5
  | 5, _ => nmX6
  | 6, _ => nmX7
  | 7, _ => nmX8
  | 8, _ => nmX9
  | 9, _ => nmX10
  | 10, _ => nmX11
  | 11, _ => nmX12
  | n + 12, h => absurd h (by omega)
/-- a field's kind is as its type says -/
theorem fk_ok : ∀ x, x < 12 → ∀ y, y < nf x → (match fk x y with
  | 0 => decide (kY x y = .int) && !(kT x y).2.2.2
  | 1 => true
  | 2 => fits (kY x y) (.ref 0) && !(kT x y).2.2.2
  | 3 => decide (kY x y = .boolean) && !(kT x y).2.2.2
  | _ => false) = true := by decide +kernel
theorem nf_lt : ∀ x, x < 12 → nf x < 100 := by decide +kernel
set_option maxRecDepth 100000 in
theorem uws_0 : (u_ws (ocl 0) (kT 0) (nf 0)).map some = ([432, 434, 436, 438, 440, 442] : List Nat).map (fun p => lw_tbl[p]?) := rfl
set_option maxRecDepth 100000 in
theorem uws_1 : (u_ws (ocl 1) (kT 1) (nf 1)).map some = ([459, 461, 463, 465, 467, 469, 471] : List Nat).map (fun p => lw_tbl[p]?) := rfl
set_option maxRecDepth 100000 in
theorem uws_2 : (u_ws (ocl 2) (kT 2) (nf 2)).map some = ([326, 328, 330, 332, 334, 336, 338, 340, 342, 344, 346] : List Nat).map (fun p => lw_tbl[p]?) := rfl
set_option maxRecDepth 100000 in
theorem uws_3 : (u_ws (ocl 3) (kT 3) (nf 3)).map some = ([484, 486, 488, 490] : List Nat).map (fun p => lw_tbl[p]?) := rfl
set_option maxRecDepth 100000 in
theorem uws_4 : (u_ws (ocl 4) (kT 4) (nf 4)).map some = ([278, 280, 282, 284, 286, 288, 290, 292, 294, 296, 298] : List Nat).map (fun p => lw_tbl[p]?) := rfl
set_option maxRecDepth 100000 in
theorem uws_5 : (u_ws (ocl 5) (kT 5) (nf 5)).map some = ([400, 402, 404, 406, 408, 410, 412, 414, 416] : List Nat).map (fun p => lw_tbl[p]?) := rfl
set_option maxRecDepth 100000 in
theorem uws_6 : (u_ws (ocl 6) (kT 6) (nf 6)).map some = ([232, 234, 236, 238, 240] : List Nat).map (fun p => lw_tbl[p]?) := rfl
set_option maxRecDepth 100000 in
theorem uws_7 : (u_ws (ocl 7) (kT 7) (nf 7)).map some = ([194, 196, 198, 200, 202] : List Nat).map (fun p => lw_tbl[p]?) := rfl
set_option maxRecDepth 100000 in
theorem uws_8 : (u_ws (ocl 8) (kT 8) (nf 8)).map some = ([516, 518, 520, 522, 524, 526, 528, 530, 532] : List Nat).map (fun p => lw_tbl[p]?) := rfl
set_option maxRecDepth 100000 in
theorem uws_9 : (u_ws (ocl 9) (kT 9) (nf 9)).map some = ([366, 368, 370, 372, 374, 376, 378, 380, 382] : List Nat).map (fun p => lw_tbl[p]?) := rfl
set_option maxRecDepth 100000 in
theorem uws_10 : (u_ws (ocl 10) (kT 10) (nf 10)).map some = ([553, 555, 557, 559, 561, 563, 565, 567, 569, 571, 573, 575, 577, 579, 581, 583, 585, 587] : List Nat).map (fun p => lw_tbl[p]?) := rfl
set_option maxRecDepth 100000 in
theorem uws_11 : (u_ws (ocl 11) (kT 11) (nf 11)).map some = ([1400, 1402, 1404, 1406, 1408, 1410, 1412, 1414, 1416, 1418, 1420, 1422, 1424, 1426, 1428, 1430, 1432, 1434, 1436, 1438, 1440, 1442, 1444, 1446, 1448, 1450, 1452, 1454, 1456, 1458, 1460, 1462, 1464, 1466, 1468, 1470, 1472, 1474, 1476, 1478, 1480, 1482, 1484, 1486, 1488, 1490, 1492, 1494, 1496, 1498, 1500, 1502, 1504, 1506, 1508, 1510, 1512, 1514, 1516, 1518, 1520, 1522, 1524, 1526, 1528, 1530, 1532, 1534, 1536, 1538, 1540, 1542, 1544, 1546, 1548, 1550, 1552, 1554, 1556, 1558, 1560, 1562, 1564, 1566, 1568] : List Nat).map (fun p => lw_tbl[p]?) := rfl
theorem lst_in {T ws : List Cond} {ps : List Nat} (h : ws.map some = ps.map (fun p => T[p]?)) : ∀ w ∈ ws, w ∈ T := by
  intro w hw
  have h1 : some w ∈ ws.map some := List.mem_map.mpr ⟨w, hw, rfl⟩
  rw [h] at h1
  obtain ⟨p, -, hp⟩ := List.mem_map.mp h1
  exact List.mem_of_getElem? hp
theorem u_good {C : String} {T : u_T} {N : Nat} {w : Cond} (h : w ∈ u_ws C T N) : goodWord w = true := by
  obtain ⟨k, -, rfl⟩ := List.mem_map.mp h
  unfold u_lay
  split <;> rfl
theorem uws_in : ∀ x, x < 12 → ∀ w ∈ u_ws (ocl x) (kT x) (nf x), w ∈ TBg
  | 0, _ => fun w h => mem_good (lst_in uws_0 w h) (u_good h)
  | 1, _ => fun w h => mem_good (lst_in uws_1 w h) (u_good h)
  | 2, _ => fun w h => mem_good (lst_in uws_2 w h) (u_good h)
  | 3, _ => fun w h => mem_good (lst_in uws_3 w h) (u_good h)
  | 4, _ => fun w h => mem_good (lst_in uws_4 w h) (u_good h)
  | 5, _ => fun w h => mem_good (lst_in uws_5 w h) (u_good h)
  | 6, _ => fun w h => mem_good (lst_in uws_6 w h) (u_good h)
  | 7, _ => fun w h => mem_good (lst_in uws_7 w h) (u_good h)
  | 8, _ => fun w h => mem_good (lst_in uws_8 w h) (u_good h)
  | 9, _ => fun w h => mem_good (lst_in uws_9 w h) (u_good h)
  | 10, _ => fun w h => mem_good (lst_in uws_10 w h) (u_good h)
  | 11, _ => fun w h => mem_good (lst_in uws_11 w h) (u_good h)
  | n + 12, h => absurd h (by omega)
