/-! what each cell is: made by wip/whole/gen/cells.py -/
theorem gdK_4 {X : Rs} : gdK 10 4 X = X := gdK_of rfl
theorem gfI_4 {y : Nat} {σ : Sg} {K : Int32 → Rs} : gfI 10 4 y σ K = K (σ.1 4 y) := gfI_of rfl
theorem pfI_4 {y : Nat} {v : Int32} {σ : Sg} {K : Sg → Rs} : pfI 10 4 y v σ K = K (sI σ 4 y v) := pfI_of rfl
theorem gfD_4 {y : Nat} {σ : Sg} {K : Nat → Rs} : gfD 10 4 y σ K = K (σ.2.2 4 y) := gfD_of rfl
theorem pfD_4 {y v : Nat} {σ : Sg} {K : Sg → Rs} : pfD 10 4 y v σ K = K (sR σ 4 y v) := pfD_of rfl
theorem gfS_4_0 {K : Nat → Rs} : gfS 10 4 0 K = K 5 := gfS_of rfl
theorem gfS_4_7 {K : Nat → Rs} : gfS 10 4 7 K = K 49 := gfS_of rfl
theorem gfS_4_8 {K : Nat → Rs} : gfS 10 4 8 K = K 55 := gfS_of rfl
theorem gfS_4_9 {K : Nat → Rs} : gfS 10 4 9 K = K 61 := gfS_of rfl
theorem gfS_4_10 {K : Nat → Rs} : gfS 10 4 10 K = K 69 := gfS_of rfl
theorem gfS_4_11 {K : Nat → Rs} : gfS 10 4 11 K = K 75 := gfS_of rfl
theorem gfS_4_12 {K : Nat → Rs} : gfS 10 4 12 K = K 82 := gfS_of rfl
theorem gfS_4_13 {K : Nat → Rs} : gfS 10 4 13 K = K 87 := gfS_of rfl
theorem gfS_4_14 {K : Nat → Rs} : gfS 10 4 14 K = K 92 := gfS_of rfl
theorem gfS_4_15 {K : Nat → Rs} : gfS 10 4 15 K = K 97 := gfS_of rfl
theorem pfZ_4_17_0 {σ : Sg} {K : Sg → Rs} : pfZ 10 4 17 (zI 0) σ K = K (sI σ 4 17 (zI 0)) := pfZ_0 rfl
theorem pfZ_4_17_1 {σ : Sg} {K : Sg → Rs} : pfZ 10 4 17 (zI 1) σ K = K (sI σ 4 17 (zI 1)) := pfZ_1 rfl
theorem gdK_5 {X : Rs} : gdK 7 5 X = X := gdK_of rfl
theorem gfI_5 {y : Nat} {σ : Sg} {K : Int32 → Rs} : gfI 7 5 y σ K = K (σ.1 5 y) := gfI_of rfl
theorem pfI_5 {y : Nat} {v : Int32} {σ : Sg} {K : Sg → Rs} : pfI 7 5 y v σ K = K (sI σ 5 y v) := pfI_of rfl
theorem gfS_5_0 {K : Nat → Rs} : gfS 7 5 0 K = K 6 := gfS_of rfl
theorem ldI_6 {i : Int} {σ : Sg} {K : Int32 → Rs} (h0 : 0 ≤ i) (h1 : i < 260) : ldX sc0 6 (zI i) σ K = K (σ.1 6 i.toNat) := ldI_of rfl h0 h1 (by omega)
theorem stI_6 {i : Int} {v : Int32} {σ : Sg} {K : Sg → Rs} (h0 : 0 ≤ i) (h1 : i < 260) : stI 6 (zI i) v σ K = K (sI σ 6 i.toNat v) := stI_of rfl h0 h1 (by omega)
theorem aln_6 {K : Int32 → Rs} : alX sc0 6 K = K (zI 260) := rfl
theorem gdK_7 {X : Rs} : gdK 6 7 X = X := gdK_of rfl
theorem gfI_7 {y : Nat} {σ : Sg} {K : Int32 → Rs} : gfI 6 7 y σ K = K (σ.1 7 y) := gfI_of rfl
theorem pfI_7 {y : Nat} {v : Int32} {σ : Sg} {K : Sg → Rs} : pfI 6 7 y v σ K = K (sI σ 7 y v) := pfI_of rfl
theorem gfS_7_1 {K : Nat → Rs} : gfS 6 7 1 K = K 8 := gfS_of rfl
theorem gfS_7_2 {K : Nat → Rs} : gfS 6 7 2 K = K 9 := gfS_of rfl
theorem gfS_7_3 {K : Nat → Rs} : gfS 6 7 3 K = K 10 := gfS_of rfl
theorem gfS_7_4 {K : Nat → Rs} : gfS 6 7 4 K = K 11 := gfS_of rfl
theorem ldI_8 {i : Int} {σ : Sg} {K : Int32 → Rs} (h0 : 0 ≤ i) (h1 : i < 6) : ldX sc0 8 (zI i) σ K = K (σ.1 8 i.toNat) := ldI_of rfl h0 h1 (by omega)
theorem stI_8 {i : Int} {v : Int32} {σ : Sg} {K : Sg → Rs} (h0 : 0 ≤ i) (h1 : i < 6) : stI 8 (zI i) v σ K = K (sI σ 8 i.toNat v) := stI_of rfl h0 h1 (by omega)
theorem aln_8 {K : Int32 → Rs} : alX sc0 8 K = K (zI 6) := rfl
theorem ldI_9 {i : Int} {σ : Sg} {K : Int32 → Rs} (h0 : 0 ≤ i) (h1 : i < 6) : ldX sc0 9 (zI i) σ K = K (σ.1 9 i.toNat) := ldI_of rfl h0 h1 (by omega)
theorem stI_9 {i : Int} {v : Int32} {σ : Sg} {K : Sg → Rs} (h0 : 0 ≤ i) (h1 : i < 6) : stI 9 (zI i) v σ K = K (sI σ 9 i.toNat v) := stI_of rfl h0 h1 (by omega)
theorem aln_9 {K : Int32 → Rs} : alX sc0 9 K = K (zI 6) := rfl
theorem ldI_10 {i : Int} {σ : Sg} {K : Int32 → Rs} (h0 : 0 ≤ i) (h1 : i < 6) : ldX sc0 10 (zI i) σ K = K (σ.1 10 i.toNat) := ldI_of rfl h0 h1 (by omega)
theorem stI_10 {i : Int} {v : Int32} {σ : Sg} {K : Sg → Rs} (h0 : 0 ≤ i) (h1 : i < 6) : stI 10 (zI i) v σ K = K (sI σ 10 i.toNat v) := stI_of rfl h0 h1 (by omega)
theorem aln_10 {K : Int32 → Rs} : alX sc0 10 K = K (zI 6) := rfl
theorem ldI_11 {i : Int} {σ : Sg} {K : Int32 → Rs} (h0 : 0 ≤ i) (h1 : i < 6) : ldX sc0 11 (zI i) σ K = K (σ.1 11 i.toNat) := ldI_of rfl h0 h1 (by omega)
theorem stI_11 {i : Int} {v : Int32} {σ : Sg} {K : Sg → Rs} (h0 : 0 ≤ i) (h1 : i < 6) : stI 11 (zI i) v σ K = K (sI σ 11 i.toNat v) := stI_of rfl h0 h1 (by omega)
theorem aln_11 {K : Int32 → Rs} : alX sc0 11 K = K (zI 6) := rfl
theorem gdK_12 {X : Rs} : gdK 6 12 X = X := gdK_of rfl
theorem gfI_12 {y : Nat} {σ : Sg} {K : Int32 → Rs} : gfI 6 12 y σ K = K (σ.1 12 y) := gfI_of rfl
theorem pfI_12 {y : Nat} {v : Int32} {σ : Sg} {K : Sg → Rs} : pfI 6 12 y v σ K = K (sI σ 12 y v) := pfI_of rfl
theorem gfS_12_1 {K : Nat → Rs} : gfS 6 12 1 K = K 13 := gfS_of rfl
theorem gfS_12_2 {K : Nat → Rs} : gfS 6 12 2 K = K 14 := gfS_of rfl
theorem gfS_12_3 {K : Nat → Rs} : gfS 6 12 3 K = K 15 := gfS_of rfl
theorem gfS_12_4 {K : Nat → Rs} : gfS 6 12 4 K = K 16 := gfS_of rfl
theorem ldI_13 {i : Int} {σ : Sg} {K : Int32 → Rs} (h0 : 0 ≤ i) (h1 : i < 6) : ldX sc0 13 (zI i) σ K = K (σ.1 13 i.toNat) := ldI_of rfl h0 h1 (by omega)
theorem stI_13 {i : Int} {v : Int32} {σ : Sg} {K : Sg → Rs} (h0 : 0 ≤ i) (h1 : i < 6) : stI 13 (zI i) v σ K = K (sI σ 13 i.toNat v) := stI_of rfl h0 h1 (by omega)
theorem aln_13 {K : Int32 → Rs} : alX sc0 13 K = K (zI 6) := rfl
theorem ldI_14 {i : Int} {σ : Sg} {K : Int32 → Rs} (h0 : 0 ≤ i) (h1 : i < 6) : ldX sc0 14 (zI i) σ K = K (σ.1 14 i.toNat) := ldI_of rfl h0 h1 (by omega)
theorem stI_14 {i : Int} {v : Int32} {σ : Sg} {K : Sg → Rs} (h0 : 0 ≤ i) (h1 : i < 6) : stI 14 (zI i) v σ K = K (sI σ 14 i.toNat v) := stI_of rfl h0 h1 (by omega)
theorem aln_14 {K : Int32 → Rs} : alX sc0 14 K = K (zI 6) := rfl
theorem ldI_15 {i : Int} {σ : Sg} {K : Int32 → Rs} (h0 : 0 ≤ i) (h1 : i < 6) : ldX sc0 15 (zI i) σ K = K (σ.1 15 i.toNat) := ldI_of rfl h0 h1 (by omega)
theorem stI_15 {i : Int} {v : Int32} {σ : Sg} {K : Sg → Rs} (h0 : 0 ≤ i) (h1 : i < 6) : stI 15 (zI i) v σ K = K (sI σ 15 i.toNat v) := stI_of rfl h0 h1 (by omega)
theorem aln_15 {K : Int32 → Rs} : alX sc0 15 K = K (zI 6) := rfl
theorem ldI_16 {i : Int} {σ : Sg} {K : Int32 → Rs} (h0 : 0 ≤ i) (h1 : i < 6) : ldX sc0 16 (zI i) σ K = K (σ.1 16 i.toNat) := ldI_of rfl h0 h1 (by omega)
theorem stI_16 {i : Int} {v : Int32} {σ : Sg} {K : Sg → Rs} (h0 : 0 ≤ i) (h1 : i < 6) : stI 16 (zI i) v σ K = K (sI σ 16 i.toNat v) := stI_of rfl h0 h1 (by omega)
theorem aln_16 {K : Int32 → Rs} : alX sc0 16 K = K (zI 6) := rfl
theorem gdK_17 {X : Rs} : gdK 4 17 X = X := gdK_of rfl
theorem gfI_17 {y : Nat} {σ : Sg} {K : Int32 → Rs} : gfI 4 17 y σ K = K (σ.1 17 y) := gfI_of rfl
theorem pfI_17 {y : Nat} {v : Int32} {σ : Sg} {K : Sg → Rs} : pfI 4 17 y v σ K = K (sI σ 17 y v) := pfI_of rfl
theorem gfS_17_1 {K : Nat → Rs} : gfS 4 17 1 K = K 18 := gfS_of rfl
theorem gfS_17_2 {K : Nat → Rs} : gfS 4 17 2 K = K 19 := gfS_of rfl
theorem gfS_17_3 {K : Nat → Rs} : gfS 4 17 3 K = K 20 := gfS_of rfl
theorem gfS_17_4 {K : Nat → Rs} : gfS 4 17 4 K = K 21 := gfS_of rfl
theorem gfS_17_5 {K : Nat → Rs} : gfS 4 17 5 K = K 22 := gfS_of rfl
theorem gfS_17_6 {K : Nat → Rs} : gfS 4 17 6 K = K 23 := gfS_of rfl
theorem gfS_17_7 {K : Nat → Rs} : gfS 4 17 7 K = K 24 := gfS_of rfl
theorem ldI_18 {i : Int} {σ : Sg} {K : Int32 → Rs} (h0 : 0 ≤ i) (h1 : i < 24) : ldX sc0 18 (zI i) σ K = K (σ.1 18 i.toNat) := ldI_of rfl h0 h1 (by omega)
theorem stI_18 {i : Int} {v : Int32} {σ : Sg} {K : Sg → Rs} (h0 : 0 ≤ i) (h1 : i < 24) : stI 18 (zI i) v σ K = K (sI σ 18 i.toNat v) := stI_of rfl h0 h1 (by omega)
theorem aln_18 {K : Int32 → Rs} : alX sc0 18 K = K (zI 24) := rfl
theorem ldI_19 {i : Int} {σ : Sg} {K : Int32 → Rs} (h0 : 0 ≤ i) (h1 : i < 24) : ldX sc0 19 (zI i) σ K = K (σ.1 19 i.toNat) := ldI_of rfl h0 h1 (by omega)
theorem stI_19 {i : Int} {v : Int32} {σ : Sg} {K : Sg → Rs} (h0 : 0 ≤ i) (h1 : i < 24) : stI 19 (zI i) v σ K = K (sI σ 19 i.toNat v) := stI_of rfl h0 h1 (by omega)
theorem aln_19 {K : Int32 → Rs} : alX sc0 19 K = K (zI 24) := rfl
theorem ldI_20 {i : Int} {σ : Sg} {K : Int32 → Rs} (h0 : 0 ≤ i) (h1 : i < 24) : ldX sc0 20 (zI i) σ K = K (σ.1 20 i.toNat) := ldI_of rfl h0 h1 (by omega)
theorem stI_20 {i : Int} {v : Int32} {σ : Sg} {K : Sg → Rs} (h0 : 0 ≤ i) (h1 : i < 24) : stI 20 (zI i) v σ K = K (sI σ 20 i.toNat v) := stI_of rfl h0 h1 (by omega)
theorem aln_20 {K : Int32 → Rs} : alX sc0 20 K = K (zI 24) := rfl
theorem ldI_21 {i : Int} {σ : Sg} {K : Int32 → Rs} (h0 : 0 ≤ i) (h1 : i < 24) : ldX sc0 21 (zI i) σ K = K (σ.1 21 i.toNat) := ldI_of rfl h0 h1 (by omega)
theorem stI_21 {i : Int} {v : Int32} {σ : Sg} {K : Sg → Rs} (h0 : 0 ≤ i) (h1 : i < 24) : stI 21 (zI i) v σ K = K (sI σ 21 i.toNat v) := stI_of rfl h0 h1 (by omega)
theorem aln_21 {K : Int32 → Rs} : alX sc0 21 K = K (zI 24) := rfl
theorem ldI_22 {i : Int} {σ : Sg} {K : Int32 → Rs} (h0 : 0 ≤ i) (h1 : i < 24) : ldX sc0 22 (zI i) σ K = K (σ.1 22 i.toNat) := ldI_of rfl h0 h1 (by omega)
theorem stI_22 {i : Int} {v : Int32} {σ : Sg} {K : Sg → Rs} (h0 : 0 ≤ i) (h1 : i < 24) : stI 22 (zI i) v σ K = K (sI σ 22 i.toNat v) := stI_of rfl h0 h1 (by omega)
theorem aln_22 {K : Int32 → Rs} : alX sc0 22 K = K (zI 24) := rfl
theorem ldI_23 {i : Int} {σ : Sg} {K : Int32 → Rs} (h0 : 0 ≤ i) (h1 : i < 24) : ldX sc0 23 (zI i) σ K = K (σ.1 23 i.toNat) := ldI_of rfl h0 h1 (by omega)
theorem stI_23 {i : Int} {v : Int32} {σ : Sg} {K : Sg → Rs} (h0 : 0 ≤ i) (h1 : i < 24) : stI 23 (zI i) v σ K = K (sI σ 23 i.toNat v) := stI_of rfl h0 h1 (by omega)
theorem aln_23 {K : Int32 → Rs} : alX sc0 23 K = K (zI 24) := rfl
theorem ldI_24 {i : Int} {σ : Sg} {K : Int32 → Rs} (h0 : 0 ≤ i) (h1 : i < 24) : ldX sc0 24 (zI i) σ K = K (σ.1 24 i.toNat) := ldI_of rfl h0 h1 (by omega)
theorem stI_24 {i : Int} {v : Int32} {σ : Sg} {K : Sg → Rs} (h0 : 0 ≤ i) (h1 : i < 24) : stI 24 (zI i) v σ K = K (sI σ 24 i.toNat v) := stI_of rfl h0 h1 (by omega)
theorem aln_24 {K : Int32 → Rs} : alX sc0 24 K = K (zI 24) := rfl
theorem gdK_25 {X : Rs} : gdK 4 25 X = X := gdK_of rfl
theorem gfI_25 {y : Nat} {σ : Sg} {K : Int32 → Rs} : gfI 4 25 y σ K = K (σ.1 25 y) := gfI_of rfl
theorem pfI_25 {y : Nat} {v : Int32} {σ : Sg} {K : Sg → Rs} : pfI 4 25 y v σ K = K (sI σ 25 y v) := pfI_of rfl
theorem gfS_25_1 {K : Nat → Rs} : gfS 4 25 1 K = K 26 := gfS_of rfl
theorem gfS_25_2 {K : Nat → Rs} : gfS 4 25 2 K = K 27 := gfS_of rfl
theorem gfS_25_3 {K : Nat → Rs} : gfS 4 25 3 K = K 28 := gfS_of rfl
theorem gfS_25_4 {K : Nat → Rs} : gfS 4 25 4 K = K 29 := gfS_of rfl
theorem gfS_25_5 {K : Nat → Rs} : gfS 4 25 5 K = K 30 := gfS_of rfl
theorem gfS_25_6 {K : Nat → Rs} : gfS 4 25 6 K = K 31 := gfS_of rfl
theorem gfS_25_7 {K : Nat → Rs} : gfS 4 25 7 K = K 32 := gfS_of rfl
theorem ldI_26 {i : Int} {σ : Sg} {K : Int32 → Rs} (h0 : 0 ≤ i) (h1 : i < 24) : ldX sc0 26 (zI i) σ K = K (σ.1 26 i.toNat) := ldI_of rfl h0 h1 (by omega)
theorem stI_26 {i : Int} {v : Int32} {σ : Sg} {K : Sg → Rs} (h0 : 0 ≤ i) (h1 : i < 24) : stI 26 (zI i) v σ K = K (sI σ 26 i.toNat v) := stI_of rfl h0 h1 (by omega)
theorem aln_26 {K : Int32 → Rs} : alX sc0 26 K = K (zI 24) := rfl
theorem ldI_27 {i : Int} {σ : Sg} {K : Int32 → Rs} (h0 : 0 ≤ i) (h1 : i < 24) : ldX sc0 27 (zI i) σ K = K (σ.1 27 i.toNat) := ldI_of rfl h0 h1 (by omega)
theorem stI_27 {i : Int} {v : Int32} {σ : Sg} {K : Sg → Rs} (h0 : 0 ≤ i) (h1 : i < 24) : stI 27 (zI i) v σ K = K (sI σ 27 i.toNat v) := stI_of rfl h0 h1 (by omega)
theorem aln_27 {K : Int32 → Rs} : alX sc0 27 K = K (zI 24) := rfl
theorem ldI_28 {i : Int} {σ : Sg} {K : Int32 → Rs} (h0 : 0 ≤ i) (h1 : i < 24) : ldX sc0 28 (zI i) σ K = K (σ.1 28 i.toNat) := ldI_of rfl h0 h1 (by omega)
theorem stI_28 {i : Int} {v : Int32} {σ : Sg} {K : Sg → Rs} (h0 : 0 ≤ i) (h1 : i < 24) : stI 28 (zI i) v σ K = K (sI σ 28 i.toNat v) := stI_of rfl h0 h1 (by omega)
theorem aln_28 {K : Int32 → Rs} : alX sc0 28 K = K (zI 24) := rfl
theorem ldI_29 {i : Int} {σ : Sg} {K : Int32 → Rs} (h0 : 0 ≤ i) (h1 : i < 24) : ldX sc0 29 (zI i) σ K = K (σ.1 29 i.toNat) := ldI_of rfl h0 h1 (by omega)
theorem stI_29 {i : Int} {v : Int32} {σ : Sg} {K : Sg → Rs} (h0 : 0 ≤ i) (h1 : i < 24) : stI 29 (zI i) v σ K = K (sI σ 29 i.toNat v) := stI_of rfl h0 h1 (by omega)
theorem aln_29 {K : Int32 → Rs} : alX sc0 29 K = K (zI 24) := rfl
theorem ldI_30 {i : Int} {σ : Sg} {K : Int32 → Rs} (h0 : 0 ≤ i) (h1 : i < 24) : ldX sc0 30 (zI i) σ K = K (σ.1 30 i.toNat) := ldI_of rfl h0 h1 (by omega)
theorem stI_30 {i : Int} {v : Int32} {σ : Sg} {K : Sg → Rs} (h0 : 0 ≤ i) (h1 : i < 24) : stI 30 (zI i) v σ K = K (sI σ 30 i.toNat v) := stI_of rfl h0 h1 (by omega)
theorem aln_30 {K : Int32 → Rs} : alX sc0 30 K = K (zI 24) := rfl
theorem ldI_31 {i : Int} {σ : Sg} {K : Int32 → Rs} (h0 : 0 ≤ i) (h1 : i < 24) : ldX sc0 31 (zI i) σ K = K (σ.1 31 i.toNat) := ldI_of rfl h0 h1 (by omega)
theorem stI_31 {i : Int} {v : Int32} {σ : Sg} {K : Sg → Rs} (h0 : 0 ≤ i) (h1 : i < 24) : stI 31 (zI i) v σ K = K (sI σ 31 i.toNat v) := stI_of rfl h0 h1 (by omega)
theorem aln_31 {K : Int32 → Rs} : alX sc0 31 K = K (zI 24) := rfl
theorem ldI_32 {i : Int} {σ : Sg} {K : Int32 → Rs} (h0 : 0 ≤ i) (h1 : i < 24) : ldX sc0 32 (zI i) σ K = K (σ.1 32 i.toNat) := ldI_of rfl h0 h1 (by omega)
theorem stI_32 {i : Int} {v : Int32} {σ : Sg} {K : Sg → Rs} (h0 : 0 ≤ i) (h1 : i < 24) : stI 32 (zI i) v σ K = K (sI σ 32 i.toNat v) := stI_of rfl h0 h1 (by omega)
theorem aln_32 {K : Int32 → Rs} : alX sc0 32 K = K (zI 24) := rfl
theorem gdK_33 {X : Rs} : gdK 2 33 X = X := gdK_of rfl
theorem gfI_33 {y : Nat} {σ : Sg} {K : Int32 → Rs} : gfI 2 33 y σ K = K (σ.1 33 y) := gfI_of rfl
theorem pfI_33 {y : Nat} {v : Int32} {σ : Sg} {K : Sg → Rs} : pfI 2 33 y v σ K = K (sI σ 33 y v) := pfI_of rfl
theorem gfS_33_1 {K : Nat → Rs} : gfS 2 33 1 K = K 34 := gfS_of rfl
theorem gfS_33_2 {K : Nat → Rs} : gfS 2 33 2 K = K 35 := gfS_of rfl
theorem gfS_33_3 {K : Nat → Rs} : gfS 2 33 3 K = K 36 := gfS_of rfl
theorem gfS_33_4 {K : Nat → Rs} : gfS 2 33 4 K = K 37 := gfS_of rfl
theorem gfS_33_6 {K : Nat → Rs} : gfS 2 33 6 K = K 38 := gfS_of rfl
theorem gfS_33_7 {K : Nat → Rs} : gfS 2 33 7 K = K 39 := gfS_of rfl
theorem gfS_33_8 {K : Nat → Rs} : gfS 2 33 8 K = K 40 := gfS_of rfl
theorem pfZ_33_10_0 {σ : Sg} {K : Sg → Rs} : pfZ 2 33 10 (zI 0) σ K = K (sI σ 33 10 (zI 0)) := pfZ_0 rfl
theorem pfZ_33_10_1 {σ : Sg} {K : Sg → Rs} : pfZ 2 33 10 (zI 1) σ K = K (sI σ 33 10 (zI 1)) := pfZ_1 rfl
theorem ldI_34 {i : Int} {σ : Sg} {K : Int32 → Rs} (h0 : 0 ≤ i) (h1 : i < 16) : ldX sc0 34 (zI i) σ K = K (σ.1 34 i.toNat) := ldI_of rfl h0 h1 (by omega)
theorem stI_34 {i : Int} {v : Int32} {σ : Sg} {K : Sg → Rs} (h0 : 0 ≤ i) (h1 : i < 16) : stI 34 (zI i) v σ K = K (sI σ 34 i.toNat v) := stI_of rfl h0 h1 (by omega)
theorem aln_34 {K : Int32 → Rs} : alX sc0 34 K = K (zI 16) := rfl
theorem ldI_35 {i : Int} {σ : Sg} {K : Int32 → Rs} (h0 : 0 ≤ i) (h1 : i < 16) : ldX sc0 35 (zI i) σ K = K (σ.1 35 i.toNat) := ldI_of rfl h0 h1 (by omega)
theorem stI_35 {i : Int} {v : Int32} {σ : Sg} {K : Sg → Rs} (h0 : 0 ≤ i) (h1 : i < 16) : stI 35 (zI i) v σ K = K (sI σ 35 i.toNat v) := stI_of rfl h0 h1 (by omega)
theorem aln_35 {K : Int32 → Rs} : alX sc0 35 K = K (zI 16) := rfl
theorem ldI_36 {i : Int} {σ : Sg} {K : Int32 → Rs} (h0 : 0 ≤ i) (h1 : i < 16) : ldX sc0 36 (zI i) σ K = K (σ.1 36 i.toNat) := ldI_of rfl h0 h1 (by omega)
theorem stI_36 {i : Int} {v : Int32} {σ : Sg} {K : Sg → Rs} (h0 : 0 ≤ i) (h1 : i < 16) : stI 36 (zI i) v σ K = K (sI σ 36 i.toNat v) := stI_of rfl h0 h1 (by omega)
theorem aln_36 {K : Int32 → Rs} : alX sc0 36 K = K (zI 16) := rfl
theorem ldI_37 {i : Int} {σ : Sg} {K : Int32 → Rs} (h0 : 0 ≤ i) (h1 : i < 16) : ldX sc0 37 (zI i) σ K = K (σ.1 37 i.toNat) := ldI_of rfl h0 h1 (by omega)
theorem stI_37 {i : Int} {v : Int32} {σ : Sg} {K : Sg → Rs} (h0 : 0 ≤ i) (h1 : i < 16) : stI 37 (zI i) v σ K = K (sI σ 37 i.toNat v) := stI_of rfl h0 h1 (by omega)
theorem aln_37 {K : Int32 → Rs} : alX sc0 37 K = K (zI 16) := rfl
theorem ldC_38 {i : Int} {σ : Sg} {K : Int32 → Rs} (h0 : 0 ≤ i) (h1 : i < 240) : ldC 38 (zI i) σ K = K (σ.1 38 i.toNat) := ldC_of rfl h0 h1 (by omega)
theorem stC_38 {i : Int} {v : Int32} {σ : Sg} {K : Sg → Rs} (h0 : 0 ≤ i) (h1 : i < 240) : stC 38 (zI i) v σ K = K (sI σ 38 i.toNat (vp_nar .char v)) := stC_of rfl h0 h1 (by omega)
theorem aln_38 {K : Int32 → Rs} : alX sc0 38 K = K (zI 240) := rfl
theorem ldI_39 {i : Int} {σ : Sg} {K : Int32 → Rs} (h0 : 0 ≤ i) (h1 : i < 240) : ldX sc0 39 (zI i) σ K = K (σ.1 39 i.toNat) := ldI_of rfl h0 h1 (by omega)
theorem stI_39 {i : Int} {v : Int32} {σ : Sg} {K : Sg → Rs} (h0 : 0 ≤ i) (h1 : i < 240) : stI 39 (zI i) v σ K = K (sI σ 39 i.toNat v) := stI_of rfl h0 h1 (by omega)
theorem aln_39 {K : Int32 → Rs} : alX sc0 39 K = K (zI 240) := rfl
theorem ldI_40 {i : Int} {σ : Sg} {K : Int32 → Rs} (h0 : 0 ≤ i) (h1 : i < 64) : ldX sc0 40 (zI i) σ K = K (σ.1 40 i.toNat) := ldI_of rfl h0 h1 (by omega)
theorem stI_40 {i : Int} {v : Int32} {σ : Sg} {K : Sg → Rs} (h0 : 0 ≤ i) (h1 : i < 64) : stI 40 (zI i) v σ K = K (sI σ 40 i.toNat v) := stI_of rfl h0 h1 (by omega)
theorem aln_40 {K : Int32 → Rs} : alX sc0 40 K = K (zI 64) := rfl
theorem gdK_41 {X : Rs} : gdK 2 41 X = X := gdK_of rfl
theorem gfI_41 {y : Nat} {σ : Sg} {K : Int32 → Rs} : gfI 2 41 y σ K = K (σ.1 41 y) := gfI_of rfl
theorem pfI_41 {y : Nat} {v : Int32} {σ : Sg} {K : Sg → Rs} : pfI 2 41 y v σ K = K (sI σ 41 y v) := pfI_of rfl
theorem gfS_41_1 {K : Nat → Rs} : gfS 2 41 1 K = K 42 := gfS_of rfl
theorem gfS_41_2 {K : Nat → Rs} : gfS 2 41 2 K = K 43 := gfS_of rfl
theorem gfS_41_3 {K : Nat → Rs} : gfS 2 41 3 K = K 44 := gfS_of rfl
theorem gfS_41_4 {K : Nat → Rs} : gfS 2 41 4 K = K 45 := gfS_of rfl
theorem gfS_41_6 {K : Nat → Rs} : gfS 2 41 6 K = K 46 := gfS_of rfl
theorem gfS_41_7 {K : Nat → Rs} : gfS 2 41 7 K = K 47 := gfS_of rfl
theorem gfS_41_8 {K : Nat → Rs} : gfS 2 41 8 K = K 48 := gfS_of rfl
theorem pfZ_41_10_0 {σ : Sg} {K : Sg → Rs} : pfZ 2 41 10 (zI 0) σ K = K (sI σ 41 10 (zI 0)) := pfZ_0 rfl
theorem pfZ_41_10_1 {σ : Sg} {K : Sg → Rs} : pfZ 2 41 10 (zI 1) σ K = K (sI σ 41 10 (zI 1)) := pfZ_1 rfl
theorem ldI_42 {i : Int} {σ : Sg} {K : Int32 → Rs} (h0 : 0 ≤ i) (h1 : i < 16) : ldX sc0 42 (zI i) σ K = K (σ.1 42 i.toNat) := ldI_of rfl h0 h1 (by omega)
theorem stI_42 {i : Int} {v : Int32} {σ : Sg} {K : Sg → Rs} (h0 : 0 ≤ i) (h1 : i < 16) : stI 42 (zI i) v σ K = K (sI σ 42 i.toNat v) := stI_of rfl h0 h1 (by omega)
theorem aln_42 {K : Int32 → Rs} : alX sc0 42 K = K (zI 16) := rfl
theorem ldI_43 {i : Int} {σ : Sg} {K : Int32 → Rs} (h0 : 0 ≤ i) (h1 : i < 16) : ldX sc0 43 (zI i) σ K = K (σ.1 43 i.toNat) := ldI_of rfl h0 h1 (by omega)
theorem stI_43 {i : Int} {v : Int32} {σ : Sg} {K : Sg → Rs} (h0 : 0 ≤ i) (h1 : i < 16) : stI 43 (zI i) v σ K = K (sI σ 43 i.toNat v) := stI_of rfl h0 h1 (by omega)
theorem aln_43 {K : Int32 → Rs} : alX sc0 43 K = K (zI 16) := rfl
theorem ldI_44 {i : Int} {σ : Sg} {K : Int32 → Rs} (h0 : 0 ≤ i) (h1 : i < 16) : ldX sc0 44 (zI i) σ K = K (σ.1 44 i.toNat) := ldI_of rfl h0 h1 (by omega)
theorem stI_44 {i : Int} {v : Int32} {σ : Sg} {K : Sg → Rs} (h0 : 0 ≤ i) (h1 : i < 16) : stI 44 (zI i) v σ K = K (sI σ 44 i.toNat v) := stI_of rfl h0 h1 (by omega)
theorem aln_44 {K : Int32 → Rs} : alX sc0 44 K = K (zI 16) := rfl
theorem ldI_45 {i : Int} {σ : Sg} {K : Int32 → Rs} (h0 : 0 ≤ i) (h1 : i < 16) : ldX sc0 45 (zI i) σ K = K (σ.1 45 i.toNat) := ldI_of rfl h0 h1 (by omega)
theorem stI_45 {i : Int} {v : Int32} {σ : Sg} {K : Sg → Rs} (h0 : 0 ≤ i) (h1 : i < 16) : stI 45 (zI i) v σ K = K (sI σ 45 i.toNat v) := stI_of rfl h0 h1 (by omega)
theorem aln_45 {K : Int32 → Rs} : alX sc0 45 K = K (zI 16) := rfl
theorem ldC_46 {i : Int} {σ : Sg} {K : Int32 → Rs} (h0 : 0 ≤ i) (h1 : i < 240) : ldC 46 (zI i) σ K = K (σ.1 46 i.toNat) := ldC_of rfl h0 h1 (by omega)
theorem stC_46 {i : Int} {v : Int32} {σ : Sg} {K : Sg → Rs} (h0 : 0 ≤ i) (h1 : i < 240) : stC 46 (zI i) v σ K = K (sI σ 46 i.toNat (vp_nar .char v)) := stC_of rfl h0 h1 (by omega)
theorem aln_46 {K : Int32 → Rs} : alX sc0 46 K = K (zI 240) := rfl
theorem ldI_47 {i : Int} {σ : Sg} {K : Int32 → Rs} (h0 : 0 ≤ i) (h1 : i < 240) : ldX sc0 47 (zI i) σ K = K (σ.1 47 i.toNat) := ldI_of rfl h0 h1 (by omega)
theorem stI_47 {i : Int} {v : Int32} {σ : Sg} {K : Sg → Rs} (h0 : 0 ≤ i) (h1 : i < 240) : stI 47 (zI i) v σ K = K (sI σ 47 i.toNat v) := stI_of rfl h0 h1 (by omega)
theorem aln_47 {K : Int32 → Rs} : alX sc0 47 K = K (zI 240) := rfl
theorem ldI_48 {i : Int} {σ : Sg} {K : Int32 → Rs} (h0 : 0 ≤ i) (h1 : i < 64) : ldX sc0 48 (zI i) σ K = K (σ.1 48 i.toNat) := ldI_of rfl h0 h1 (by omega)
theorem stI_48 {i : Int} {v : Int32} {σ : Sg} {K : Sg → Rs} (h0 : 0 ≤ i) (h1 : i < 64) : stI 48 (zI i) v σ K = K (sI σ 48 i.toNat v) := stI_of rfl h0 h1 (by omega)
theorem aln_48 {K : Int32 → Rs} : alX sc0 48 K = K (zI 64) := rfl
theorem gdK_49 {X : Rs} : gdK 9 49 X = X := gdK_of rfl
theorem gfI_49 {y : Nat} {σ : Sg} {K : Int32 → Rs} : gfI 9 49 y σ K = K (σ.1 49 y) := gfI_of rfl
theorem pfI_49 {y : Nat} {v : Int32} {σ : Sg} {K : Sg → Rs} : pfI 9 49 y v σ K = K (sI σ 49 y v) := pfI_of rfl
theorem gfS_49_1 {K : Nat → Rs} : gfS 9 49 1 K = K 50 := gfS_of rfl
theorem gfS_49_2 {K : Nat → Rs} : gfS 9 49 2 K = K 51 := gfS_of rfl
theorem gfS_49_4 {K : Nat → Rs} : gfS 9 49 4 K = K 52 := gfS_of rfl
theorem gfS_49_5 {K : Nat → Rs} : gfS 9 49 5 K = K 53 := gfS_of rfl
theorem gfS_49_6 {K : Nat → Rs} : gfS 9 49 6 K = K 54 := gfS_of rfl
theorem pfZ_49_8_0 {σ : Sg} {K : Sg → Rs} : pfZ 9 49 8 (zI 0) σ K = K (sI σ 49 8 (zI 0)) := pfZ_0 rfl
theorem pfZ_49_8_1 {σ : Sg} {K : Sg → Rs} : pfZ 9 49 8 (zI 1) σ K = K (sI σ 49 8 (zI 1)) := pfZ_1 rfl
theorem ldI_50 {i : Int} {σ : Sg} {K : Int32 → Rs} (h0 : 0 ≤ i) (h1 : i < 24) : ldX sc0 50 (zI i) σ K = K (σ.1 50 i.toNat) := ldI_of rfl h0 h1 (by omega)
theorem stI_50 {i : Int} {v : Int32} {σ : Sg} {K : Sg → Rs} (h0 : 0 ≤ i) (h1 : i < 24) : stI 50 (zI i) v σ K = K (sI σ 50 i.toNat v) := stI_of rfl h0 h1 (by omega)
theorem aln_50 {K : Int32 → Rs} : alX sc0 50 K = K (zI 24) := rfl
theorem ldI_51 {i : Int} {σ : Sg} {K : Int32 → Rs} (h0 : 0 ≤ i) (h1 : i < 24) : ldX sc0 51 (zI i) σ K = K (σ.1 51 i.toNat) := ldI_of rfl h0 h1 (by omega)
theorem stI_51 {i : Int} {v : Int32} {σ : Sg} {K : Sg → Rs} (h0 : 0 ≤ i) (h1 : i < 24) : stI 51 (zI i) v σ K = K (sI σ 51 i.toNat v) := stI_of rfl h0 h1 (by omega)
theorem aln_51 {K : Int32 → Rs} : alX sc0 51 K = K (zI 24) := rfl
theorem ldI_52 {i : Int} {σ : Sg} {K : Int32 → Rs} (h0 : 0 ≤ i) (h1 : i < 2) : ldX sc0 52 (zI i) σ K = K (σ.1 52 i.toNat) := ldI_of rfl h0 h1 (by omega)
theorem stI_52 {i : Int} {v : Int32} {σ : Sg} {K : Sg → Rs} (h0 : 0 ≤ i) (h1 : i < 2) : stI 52 (zI i) v σ K = K (sI σ 52 i.toNat v) := stI_of rfl h0 h1 (by omega)
theorem aln_52 {K : Int32 → Rs} : alX sc0 52 K = K (zI 2) := rfl
theorem ldI_53 {i : Int} {σ : Sg} {K : Int32 → Rs} (h0 : 0 ≤ i) (h1 : i < 2) : ldX sc0 53 (zI i) σ K = K (σ.1 53 i.toNat) := ldI_of rfl h0 h1 (by omega)
theorem stI_53 {i : Int} {v : Int32} {σ : Sg} {K : Sg → Rs} (h0 : 0 ≤ i) (h1 : i < 2) : stI 53 (zI i) v σ K = K (sI σ 53 i.toNat v) := stI_of rfl h0 h1 (by omega)
theorem aln_53 {K : Int32 → Rs} : alX sc0 53 K = K (zI 2) := rfl
theorem ldI_54 {i : Int} {σ : Sg} {K : Int32 → Rs} (h0 : 0 ≤ i) (h1 : i < 2) : ldX sc0 54 (zI i) σ K = K (σ.1 54 i.toNat) := ldI_of rfl h0 h1 (by omega)
theorem stI_54 {i : Int} {v : Int32} {σ : Sg} {K : Sg → Rs} (h0 : 0 ≤ i) (h1 : i < 2) : stI 54 (zI i) v σ K = K (sI σ 54 i.toNat v) := stI_of rfl h0 h1 (by omega)
theorem aln_54 {K : Int32 → Rs} : alX sc0 54 K = K (zI 2) := rfl
theorem gdK_55 {X : Rs} : gdK 9 55 X = X := gdK_of rfl
theorem gfI_55 {y : Nat} {σ : Sg} {K : Int32 → Rs} : gfI 9 55 y σ K = K (σ.1 55 y) := gfI_of rfl
theorem pfI_55 {y : Nat} {v : Int32} {σ : Sg} {K : Sg → Rs} : pfI 9 55 y v σ K = K (sI σ 55 y v) := pfI_of rfl
theorem gfS_55_1 {K : Nat → Rs} : gfS 9 55 1 K = K 56 := gfS_of rfl
theorem gfS_55_2 {K : Nat → Rs} : gfS 9 55 2 K = K 57 := gfS_of rfl
theorem gfS_55_4 {K : Nat → Rs} : gfS 9 55 4 K = K 58 := gfS_of rfl
theorem gfS_55_5 {K : Nat → Rs} : gfS 9 55 5 K = K 59 := gfS_of rfl
theorem gfS_55_6 {K : Nat → Rs} : gfS 9 55 6 K = K 60 := gfS_of rfl
theorem pfZ_55_8_0 {σ : Sg} {K : Sg → Rs} : pfZ 9 55 8 (zI 0) σ K = K (sI σ 55 8 (zI 0)) := pfZ_0 rfl
theorem pfZ_55_8_1 {σ : Sg} {K : Sg → Rs} : pfZ 9 55 8 (zI 1) σ K = K (sI σ 55 8 (zI 1)) := pfZ_1 rfl
theorem ldI_56 {i : Int} {σ : Sg} {K : Int32 → Rs} (h0 : 0 ≤ i) (h1 : i < 24) : ldX sc0 56 (zI i) σ K = K (σ.1 56 i.toNat) := ldI_of rfl h0 h1 (by omega)
theorem stI_56 {i : Int} {v : Int32} {σ : Sg} {K : Sg → Rs} (h0 : 0 ≤ i) (h1 : i < 24) : stI 56 (zI i) v σ K = K (sI σ 56 i.toNat v) := stI_of rfl h0 h1 (by omega)
theorem aln_56 {K : Int32 → Rs} : alX sc0 56 K = K (zI 24) := rfl
theorem ldI_57 {i : Int} {σ : Sg} {K : Int32 → Rs} (h0 : 0 ≤ i) (h1 : i < 24) : ldX sc0 57 (zI i) σ K = K (σ.1 57 i.toNat) := ldI_of rfl h0 h1 (by omega)
theorem stI_57 {i : Int} {v : Int32} {σ : Sg} {K : Sg → Rs} (h0 : 0 ≤ i) (h1 : i < 24) : stI 57 (zI i) v σ K = K (sI σ 57 i.toNat v) := stI_of rfl h0 h1 (by omega)
theorem aln_57 {K : Int32 → Rs} : alX sc0 57 K = K (zI 24) := rfl
theorem ldI_58 {i : Int} {σ : Sg} {K : Int32 → Rs} (h0 : 0 ≤ i) (h1 : i < 2) : ldX sc0 58 (zI i) σ K = K (σ.1 58 i.toNat) := ldI_of rfl h0 h1 (by omega)
theorem stI_58 {i : Int} {v : Int32} {σ : Sg} {K : Sg → Rs} (h0 : 0 ≤ i) (h1 : i < 2) : stI 58 (zI i) v σ K = K (sI σ 58 i.toNat v) := stI_of rfl h0 h1 (by omega)
theorem aln_58 {K : Int32 → Rs} : alX sc0 58 K = K (zI 2) := rfl
theorem ldI_59 {i : Int} {σ : Sg} {K : Int32 → Rs} (h0 : 0 ≤ i) (h1 : i < 2) : ldX sc0 59 (zI i) σ K = K (σ.1 59 i.toNat) := ldI_of rfl h0 h1 (by omega)
theorem stI_59 {i : Int} {v : Int32} {σ : Sg} {K : Sg → Rs} (h0 : 0 ≤ i) (h1 : i < 2) : stI 59 (zI i) v σ K = K (sI σ 59 i.toNat v) := stI_of rfl h0 h1 (by omega)
theorem aln_59 {K : Int32 → Rs} : alX sc0 59 K = K (zI 2) := rfl
theorem ldI_60 {i : Int} {σ : Sg} {K : Int32 → Rs} (h0 : 0 ≤ i) (h1 : i < 2) : ldX sc0 60 (zI i) σ K = K (σ.1 60 i.toNat) := ldI_of rfl h0 h1 (by omega)
theorem stI_60 {i : Int} {v : Int32} {σ : Sg} {K : Sg → Rs} (h0 : 0 ≤ i) (h1 : i < 2) : stI 60 (zI i) v σ K = K (sI σ 60 i.toNat v) := stI_of rfl h0 h1 (by omega)
theorem aln_60 {K : Int32 → Rs} : alX sc0 60 K = K (zI 2) := rfl
theorem gdK_61 {X : Rs} : gdK 5 61 X = X := gdK_of rfl
theorem gfI_61 {y : Nat} {σ : Sg} {K : Int32 → Rs} : gfI 5 61 y σ K = K (σ.1 61 y) := gfI_of rfl
theorem pfI_61 {y : Nat} {v : Int32} {σ : Sg} {K : Sg → Rs} : pfI 5 61 y v σ K = K (sI σ 61 y v) := pfI_of rfl
theorem gfD_61 {y : Nat} {σ : Sg} {K : Nat → Rs} : gfD 5 61 y σ K = K (σ.2.2 61 y) := gfD_of rfl
theorem pfD_61 {y v : Nat} {σ : Sg} {K : Sg → Rs} : pfD 5 61 y v σ K = K (sR σ 61 y v) := pfD_of rfl
theorem gfS_61_1 {K : Nat → Rs} : gfS 5 61 1 K = K 62 := gfS_of rfl
theorem gfS_61_2 {K : Nat → Rs} : gfS 5 61 2 K = K 63 := gfS_of rfl
theorem gfS_61_3 {K : Nat → Rs} : gfS 5 61 3 K = K 64 := gfS_of rfl
theorem gfS_61_4 {K : Nat → Rs} : gfS 5 61 4 K = K 65 := gfS_of rfl
theorem gfS_61_6 {K : Nat → Rs} : gfS 5 61 6 K = K 66 := gfS_of rfl
theorem ldI_62 {i : Int} {σ : Sg} {K : Int32 → Rs} (h0 : 0 ≤ i) (h1 : i < 24) : ldX sc0 62 (zI i) σ K = K (σ.1 62 i.toNat) := ldI_of rfl h0 h1 (by omega)
theorem stI_62 {i : Int} {v : Int32} {σ : Sg} {K : Sg → Rs} (h0 : 0 ≤ i) (h1 : i < 24) : stI 62 (zI i) v σ K = K (sI σ 62 i.toNat v) := stI_of rfl h0 h1 (by omega)
theorem aln_62 {K : Int32 → Rs} : alX sc0 62 K = K (zI 24) := rfl
theorem ldI_63 {i : Int} {σ : Sg} {K : Int32 → Rs} (h0 : 0 ≤ i) (h1 : i < 12) : ldX sc0 63 (zI i) σ K = K (σ.1 63 i.toNat) := ldI_of rfl h0 h1 (by omega)
theorem stI_63 {i : Int} {v : Int32} {σ : Sg} {K : Sg → Rs} (h0 : 0 ≤ i) (h1 : i < 12) : stI 63 (zI i) v σ K = K (sI σ 63 i.toNat v) := stI_of rfl h0 h1 (by omega)
theorem aln_63 {K : Int32 → Rs} : alX sc0 63 K = K (zI 12) := rfl
theorem ldI_64 {i : Int} {σ : Sg} {K : Int32 → Rs} (h0 : 0 ≤ i) (h1 : i < 12) : ldX sc0 64 (zI i) σ K = K (σ.1 64 i.toNat) := ldI_of rfl h0 h1 (by omega)
theorem stI_64 {i : Int} {v : Int32} {σ : Sg} {K : Sg → Rs} (h0 : 0 ≤ i) (h1 : i < 12) : stI 64 (zI i) v σ K = K (sI σ 64 i.toNat v) := stI_of rfl h0 h1 (by omega)
theorem aln_64 {K : Int32 → Rs} : alX sc0 64 K = K (zI 12) := rfl
theorem ldI_65 {i : Int} {σ : Sg} {K : Int32 → Rs} (h0 : 0 ≤ i) (h1 : i < 12) : ldX sc0 65 (zI i) σ K = K (σ.1 65 i.toNat) := ldI_of rfl h0 h1 (by omega)
theorem stI_65 {i : Int} {v : Int32} {σ : Sg} {K : Sg → Rs} (h0 : 0 ≤ i) (h1 : i < 12) : stI 65 (zI i) v σ K = K (sI σ 65 i.toNat v) := stI_of rfl h0 h1 (by omega)
theorem aln_65 {K : Int32 → Rs} : alX sc0 65 K = K (zI 12) := rfl
theorem ldI_66 {i : Int} {σ : Sg} {K : Int32 → Rs} (h0 : 0 ≤ i) (h1 : i < 25) : ldX sc0 66 (zI i) σ K = K (σ.1 66 i.toNat) := ldI_of rfl h0 h1 (by omega)
theorem stI_66 {i : Int} {v : Int32} {σ : Sg} {K : Sg → Rs} (h0 : 0 ≤ i) (h1 : i < 25) : stI 66 (zI i) v σ K = K (sI σ 66 i.toNat v) := stI_of rfl h0 h1 (by omega)
theorem aln_66 {K : Int32 → Rs} : alX sc0 66 K = K (zI 25) := rfl
theorem aln_67 {K : Int32 → Rs} : alX sc0 67 K = K (zI 12) := rfl
theorem aln_68 {K : Int32 → Rs} : alX sc0 68 K = K (zI 12) := rfl
theorem gdK_69 {X : Rs} : gdK 0 69 X = X := gdK_of rfl
theorem gfI_69 {y : Nat} {σ : Sg} {K : Int32 → Rs} : gfI 0 69 y σ K = K (σ.1 69 y) := gfI_of rfl
theorem pfI_69 {y : Nat} {v : Int32} {σ : Sg} {K : Sg → Rs} : pfI 0 69 y v σ K = K (sI σ 69 y v) := pfI_of rfl
theorem gfS_69_0 {K : Nat → Rs} : gfS 0 69 0 K = K 70 := gfS_of rfl
theorem gfS_69_1 {K : Nat → Rs} : gfS 0 69 1 K = K 71 := gfS_of rfl
theorem gfS_69_2 {K : Nat → Rs} : gfS 0 69 2 K = K 72 := gfS_of rfl
theorem gfS_69_3 {K : Nat → Rs} : gfS 0 69 3 K = K 73 := gfS_of rfl
theorem gfS_69_4 {K : Nat → Rs} : gfS 0 69 4 K = K 74 := gfS_of rfl
theorem ldI_70 {i : Int} {σ : Sg} {K : Int32 → Rs} (h0 : 0 ≤ i) (h1 : i < 720) : ldX sc0 70 (zI i) σ K = K (σ.1 70 i.toNat) := ldI_of rfl h0 h1 (by omega)
theorem stI_70 {i : Int} {v : Int32} {σ : Sg} {K : Sg → Rs} (h0 : 0 ≤ i) (h1 : i < 720) : stI 70 (zI i) v σ K = K (sI σ 70 i.toNat v) := stI_of rfl h0 h1 (by omega)
theorem aln_70 {K : Int32 → Rs} : alX sc0 70 K = K (zI 720) := rfl
theorem ldI_71 {i : Int} {σ : Sg} {K : Int32 → Rs} (h0 : 0 ≤ i) (h1 : i < 720) : ldX sc0 71 (zI i) σ K = K (σ.1 71 i.toNat) := ldI_of rfl h0 h1 (by omega)
theorem stI_71 {i : Int} {v : Int32} {σ : Sg} {K : Sg → Rs} (h0 : 0 ≤ i) (h1 : i < 720) : stI 71 (zI i) v σ K = K (sI σ 71 i.toNat v) := stI_of rfl h0 h1 (by omega)
theorem aln_71 {K : Int32 → Rs} : alX sc0 71 K = K (zI 720) := rfl
theorem ldI_72 {i : Int} {σ : Sg} {K : Int32 → Rs} (h0 : 0 ≤ i) (h1 : i < 6) : ldX sc0 72 (zI i) σ K = K (σ.1 72 i.toNat) := ldI_of rfl h0 h1 (by omega)
theorem stI_72 {i : Int} {v : Int32} {σ : Sg} {K : Sg → Rs} (h0 : 0 ≤ i) (h1 : i < 6) : stI 72 (zI i) v σ K = K (sI σ 72 i.toNat v) := stI_of rfl h0 h1 (by omega)
theorem aln_72 {K : Int32 → Rs} : alX sc0 72 K = K (zI 6) := rfl
theorem ldI_73 {i : Int} {σ : Sg} {K : Int32 → Rs} (h0 : 0 ≤ i) (h1 : i < 6) : ldX sc0 73 (zI i) σ K = K (σ.1 73 i.toNat) := ldI_of rfl h0 h1 (by omega)
theorem stI_73 {i : Int} {v : Int32} {σ : Sg} {K : Sg → Rs} (h0 : 0 ≤ i) (h1 : i < 6) : stI 73 (zI i) v σ K = K (sI σ 73 i.toNat v) := stI_of rfl h0 h1 (by omega)
theorem aln_73 {K : Int32 → Rs} : alX sc0 73 K = K (zI 6) := rfl
theorem ldI_74 {i : Int} {σ : Sg} {K : Int32 → Rs} (h0 : 0 ≤ i) (h1 : i < 6) : ldX sc0 74 (zI i) σ K = K (σ.1 74 i.toNat) := ldI_of rfl h0 h1 (by omega)
theorem stI_74 {i : Int} {v : Int32} {σ : Sg} {K : Sg → Rs} (h0 : 0 ≤ i) (h1 : i < 6) : stI 74 (zI i) v σ K = K (sI σ 74 i.toNat v) := stI_of rfl h0 h1 (by omega)
theorem aln_74 {K : Int32 → Rs} : alX sc0 74 K = K (zI 6) := rfl
theorem gdK_75 {X : Rs} : gdK 1 75 X = X := gdK_of rfl
theorem gfI_75 {y : Nat} {σ : Sg} {K : Int32 → Rs} : gfI 1 75 y σ K = K (σ.1 75 y) := gfI_of rfl
theorem pfI_75 {y : Nat} {v : Int32} {σ : Sg} {K : Sg → Rs} : pfI 1 75 y v σ K = K (sI σ 75 y v) := pfI_of rfl
theorem gfS_75_0 {K : Nat → Rs} : gfS 1 75 0 K = K 76 := gfS_of rfl
theorem gfS_75_1 {K : Nat → Rs} : gfS 1 75 1 K = K 77 := gfS_of rfl
theorem gfS_75_2 {K : Nat → Rs} : gfS 1 75 2 K = K 78 := gfS_of rfl
theorem gfS_75_3 {K : Nat → Rs} : gfS 1 75 3 K = K 79 := gfS_of rfl
theorem gfS_75_4 {K : Nat → Rs} : gfS 1 75 4 K = K 80 := gfS_of rfl
theorem gfS_75_5 {K : Nat → Rs} : gfS 1 75 5 K = K 81 := gfS_of rfl
theorem ldI_76 {i : Int} {σ : Sg} {K : Int32 → Rs} (h0 : 0 ≤ i) (h1 : i < 24) : ldX sc0 76 (zI i) σ K = K (σ.1 76 i.toNat) := ldI_of rfl h0 h1 (by omega)
theorem stI_76 {i : Int} {v : Int32} {σ : Sg} {K : Sg → Rs} (h0 : 0 ≤ i) (h1 : i < 24) : stI 76 (zI i) v σ K = K (sI σ 76 i.toNat v) := stI_of rfl h0 h1 (by omega)
theorem aln_76 {K : Int32 → Rs} : alX sc0 76 K = K (zI 24) := rfl
theorem ldI_77 {i : Int} {σ : Sg} {K : Int32 → Rs} (h0 : 0 ≤ i) (h1 : i < 24) : ldX sc0 77 (zI i) σ K = K (σ.1 77 i.toNat) := ldI_of rfl h0 h1 (by omega)
theorem stI_77 {i : Int} {v : Int32} {σ : Sg} {K : Sg → Rs} (h0 : 0 ≤ i) (h1 : i < 24) : stI 77 (zI i) v σ K = K (sI σ 77 i.toNat v) := stI_of rfl h0 h1 (by omega)
theorem aln_77 {K : Int32 → Rs} : alX sc0 77 K = K (zI 24) := rfl
theorem ldI_78 {i : Int} {σ : Sg} {K : Int32 → Rs} (h0 : 0 ≤ i) (h1 : i < 24) : ldX sc0 78 (zI i) σ K = K (σ.1 78 i.toNat) := ldI_of rfl h0 h1 (by omega)
theorem stI_78 {i : Int} {v : Int32} {σ : Sg} {K : Sg → Rs} (h0 : 0 ≤ i) (h1 : i < 24) : stI 78 (zI i) v σ K = K (sI σ 78 i.toNat v) := stI_of rfl h0 h1 (by omega)
theorem aln_78 {K : Int32 → Rs} : alX sc0 78 K = K (zI 24) := rfl
theorem ldI_79 {i : Int} {σ : Sg} {K : Int32 → Rs} (h0 : 0 ≤ i) (h1 : i < 24) : ldX sc0 79 (zI i) σ K = K (σ.1 79 i.toNat) := ldI_of rfl h0 h1 (by omega)
theorem stI_79 {i : Int} {v : Int32} {σ : Sg} {K : Sg → Rs} (h0 : 0 ≤ i) (h1 : i < 24) : stI 79 (zI i) v σ K = K (sI σ 79 i.toNat v) := stI_of rfl h0 h1 (by omega)
theorem aln_79 {K : Int32 → Rs} : alX sc0 79 K = K (zI 24) := rfl
theorem ldI_80 {i : Int} {σ : Sg} {K : Int32 → Rs} (h0 : 0 ≤ i) (h1 : i < 24) : ldX sc0 80 (zI i) σ K = K (σ.1 80 i.toNat) := ldI_of rfl h0 h1 (by omega)
theorem stI_80 {i : Int} {v : Int32} {σ : Sg} {K : Sg → Rs} (h0 : 0 ≤ i) (h1 : i < 24) : stI 80 (zI i) v σ K = K (sI σ 80 i.toNat v) := stI_of rfl h0 h1 (by omega)
theorem aln_80 {K : Int32 → Rs} : alX sc0 80 K = K (zI 24) := rfl
theorem ldI_81 {i : Int} {σ : Sg} {K : Int32 → Rs} (h0 : 0 ≤ i) (h1 : i < 24) : ldX sc0 81 (zI i) σ K = K (σ.1 81 i.toNat) := ldI_of rfl h0 h1 (by omega)
theorem stI_81 {i : Int} {v : Int32} {σ : Sg} {K : Sg → Rs} (h0 : 0 ≤ i) (h1 : i < 24) : stI 81 (zI i) v σ K = K (sI σ 81 i.toNat v) := stI_of rfl h0 h1 (by omega)
theorem aln_81 {K : Int32 → Rs} : alX sc0 81 K = K (zI 24) := rfl
theorem gdK_82 {X : Rs} : gdK 3 82 X = X := gdK_of rfl
theorem gfS_82_0 {K : Nat → Rs} : gfS 3 82 0 K = K 83 := gfS_of rfl
theorem gfS_82_1 {K : Nat → Rs} : gfS 3 82 1 K = K 84 := gfS_of rfl
theorem gfS_82_2 {K : Nat → Rs} : gfS 3 82 2 K = K 85 := gfS_of rfl
theorem gfS_82_3 {K : Nat → Rs} : gfS 3 82 3 K = K 86 := gfS_of rfl
theorem ldI_83 {i : Int} {σ : Sg} {K : Int32 → Rs} (h0 : 0 ≤ i) (h1 : i < 24) : ldX sc0 83 (zI i) σ K = K (σ.1 83 i.toNat) := ldI_of rfl h0 h1 (by omega)
theorem stI_83 {i : Int} {v : Int32} {σ : Sg} {K : Sg → Rs} (h0 : 0 ≤ i) (h1 : i < 24) : stI 83 (zI i) v σ K = K (sI σ 83 i.toNat v) := stI_of rfl h0 h1 (by omega)
theorem aln_83 {K : Int32 → Rs} : alX sc0 83 K = K (zI 24) := rfl
theorem ldI_84 {i : Int} {σ : Sg} {K : Int32 → Rs} (h0 : 0 ≤ i) (h1 : i < 24) : ldX sc0 84 (zI i) σ K = K (σ.1 84 i.toNat) := ldI_of rfl h0 h1 (by omega)
theorem stI_84 {i : Int} {v : Int32} {σ : Sg} {K : Sg → Rs} (h0 : 0 ≤ i) (h1 : i < 24) : stI 84 (zI i) v σ K = K (sI σ 84 i.toNat v) := stI_of rfl h0 h1 (by omega)
theorem aln_84 {K : Int32 → Rs} : alX sc0 84 K = K (zI 24) := rfl
theorem ldI_85 {i : Int} {σ : Sg} {K : Int32 → Rs} (h0 : 0 ≤ i) (h1 : i < 24) : ldX sc0 85 (zI i) σ K = K (σ.1 85 i.toNat) := ldI_of rfl h0 h1 (by omega)
theorem stI_85 {i : Int} {v : Int32} {σ : Sg} {K : Sg → Rs} (h0 : 0 ≤ i) (h1 : i < 24) : stI 85 (zI i) v σ K = K (sI σ 85 i.toNat v) := stI_of rfl h0 h1 (by omega)
theorem aln_85 {K : Int32 → Rs} : alX sc0 85 K = K (zI 24) := rfl
theorem ldI_86 {i : Int} {σ : Sg} {K : Int32 → Rs} (h0 : 0 ≤ i) (h1 : i < 24) : ldX sc0 86 (zI i) σ K = K (σ.1 86 i.toNat) := ldI_of rfl h0 h1 (by omega)
theorem stI_86 {i : Int} {v : Int32} {σ : Sg} {K : Sg → Rs} (h0 : 0 ≤ i) (h1 : i < 24) : stI 86 (zI i) v σ K = K (sI σ 86 i.toNat v) := stI_of rfl h0 h1 (by omega)
theorem aln_86 {K : Int32 → Rs} : alX sc0 86 K = K (zI 24) := rfl
theorem gdK_87 {X : Rs} : gdK 8 87 X = X := gdK_of rfl
theorem gfI_87 {y : Nat} {σ : Sg} {K : Int32 → Rs} : gfI 8 87 y σ K = K (σ.1 87 y) := gfI_of rfl
theorem pfI_87 {y : Nat} {v : Int32} {σ : Sg} {K : Sg → Rs} : pfI 8 87 y v σ K = K (sI σ 87 y v) := pfI_of rfl
theorem gfS_87_0 {K : Nat → Rs} : gfS 8 87 0 K = K 88 := gfS_of rfl
theorem gfS_87_1 {K : Nat → Rs} : gfS 8 87 1 K = K 89 := gfS_of rfl
theorem gfS_87_2 {K : Nat → Rs} : gfS 8 87 2 K = K 90 := gfS_of rfl
theorem gfS_87_8 {K : Nat → Rs} : gfS 8 87 8 K = K 91 := gfS_of rfl
theorem ldI_88 {i : Int} {σ : Sg} {K : Int32 → Rs} (h0 : 0 ≤ i) (h1 : i < 6) : ldX sc0 88 (zI i) σ K = K (σ.1 88 i.toNat) := ldI_of rfl h0 h1 (by omega)
theorem stI_88 {i : Int} {v : Int32} {σ : Sg} {K : Sg → Rs} (h0 : 0 ≤ i) (h1 : i < 6) : stI 88 (zI i) v σ K = K (sI σ 88 i.toNat v) := stI_of rfl h0 h1 (by omega)
theorem aln_88 {K : Int32 → Rs} : alX sc0 88 K = K (zI 6) := rfl
theorem ldI_89 {i : Int} {σ : Sg} {K : Int32 → Rs} (h0 : 0 ≤ i) (h1 : i < 6) : ldX sc0 89 (zI i) σ K = K (σ.1 89 i.toNat) := ldI_of rfl h0 h1 (by omega)
theorem stI_89 {i : Int} {v : Int32} {σ : Sg} {K : Sg → Rs} (h0 : 0 ≤ i) (h1 : i < 6) : stI 89 (zI i) v σ K = K (sI σ 89 i.toNat v) := stI_of rfl h0 h1 (by omega)
theorem aln_89 {K : Int32 → Rs} : alX sc0 89 K = K (zI 6) := rfl
theorem ldI_90 {i : Int} {σ : Sg} {K : Int32 → Rs} (h0 : 0 ≤ i) (h1 : i < 6) : ldX sc0 90 (zI i) σ K = K (σ.1 90 i.toNat) := ldI_of rfl h0 h1 (by omega)
theorem stI_90 {i : Int} {v : Int32} {σ : Sg} {K : Sg → Rs} (h0 : 0 ≤ i) (h1 : i < 6) : stI 90 (zI i) v σ K = K (sI σ 90 i.toNat v) := stI_of rfl h0 h1 (by omega)
theorem aln_90 {K : Int32 → Rs} : alX sc0 90 K = K (zI 6) := rfl
theorem ldI_91 {i : Int} {σ : Sg} {K : Int32 → Rs} (h0 : 0 ≤ i) (h1 : i < 8) : ldX sc0 91 (zI i) σ K = K (σ.1 91 i.toNat) := ldI_of rfl h0 h1 (by omega)
theorem stI_91 {i : Int} {v : Int32} {σ : Sg} {K : Sg → Rs} (h0 : 0 ≤ i) (h1 : i < 8) : stI 91 (zI i) v σ K = K (sI σ 91 i.toNat v) := stI_of rfl h0 h1 (by omega)
theorem aln_91 {K : Int32 → Rs} : alX sc0 91 K = K (zI 8) := rfl
theorem gdK_92 {X : Rs} : gdK 8 92 X = X := gdK_of rfl
theorem gfI_92 {y : Nat} {σ : Sg} {K : Int32 → Rs} : gfI 8 92 y σ K = K (σ.1 92 y) := gfI_of rfl
theorem pfI_92 {y : Nat} {v : Int32} {σ : Sg} {K : Sg → Rs} : pfI 8 92 y v σ K = K (sI σ 92 y v) := pfI_of rfl
theorem gfS_92_0 {K : Nat → Rs} : gfS 8 92 0 K = K 93 := gfS_of rfl
theorem gfS_92_1 {K : Nat → Rs} : gfS 8 92 1 K = K 94 := gfS_of rfl
theorem gfS_92_2 {K : Nat → Rs} : gfS 8 92 2 K = K 95 := gfS_of rfl
theorem gfS_92_8 {K : Nat → Rs} : gfS 8 92 8 K = K 96 := gfS_of rfl
theorem ldI_93 {i : Int} {σ : Sg} {K : Int32 → Rs} (h0 : 0 ≤ i) (h1 : i < 6) : ldX sc0 93 (zI i) σ K = K (σ.1 93 i.toNat) := ldI_of rfl h0 h1 (by omega)
theorem stI_93 {i : Int} {v : Int32} {σ : Sg} {K : Sg → Rs} (h0 : 0 ≤ i) (h1 : i < 6) : stI 93 (zI i) v σ K = K (sI σ 93 i.toNat v) := stI_of rfl h0 h1 (by omega)
theorem aln_93 {K : Int32 → Rs} : alX sc0 93 K = K (zI 6) := rfl
theorem ldI_94 {i : Int} {σ : Sg} {K : Int32 → Rs} (h0 : 0 ≤ i) (h1 : i < 6) : ldX sc0 94 (zI i) σ K = K (σ.1 94 i.toNat) := ldI_of rfl h0 h1 (by omega)
theorem stI_94 {i : Int} {v : Int32} {σ : Sg} {K : Sg → Rs} (h0 : 0 ≤ i) (h1 : i < 6) : stI 94 (zI i) v σ K = K (sI σ 94 i.toNat v) := stI_of rfl h0 h1 (by omega)
theorem aln_94 {K : Int32 → Rs} : alX sc0 94 K = K (zI 6) := rfl
theorem ldI_95 {i : Int} {σ : Sg} {K : Int32 → Rs} (h0 : 0 ≤ i) (h1 : i < 6) : ldX sc0 95 (zI i) σ K = K (σ.1 95 i.toNat) := ldI_of rfl h0 h1 (by omega)
theorem stI_95 {i : Int} {v : Int32} {σ : Sg} {K : Sg → Rs} (h0 : 0 ≤ i) (h1 : i < 6) : stI 95 (zI i) v σ K = K (sI σ 95 i.toNat v) := stI_of rfl h0 h1 (by omega)
theorem aln_95 {K : Int32 → Rs} : alX sc0 95 K = K (zI 6) := rfl
theorem ldI_96 {i : Int} {σ : Sg} {K : Int32 → Rs} (h0 : 0 ≤ i) (h1 : i < 8) : ldX sc0 96 (zI i) σ K = K (σ.1 96 i.toNat) := ldI_of rfl h0 h1 (by omega)
theorem stI_96 {i : Int} {v : Int32} {σ : Sg} {K : Sg → Rs} (h0 : 0 ≤ i) (h1 : i < 8) : stI 96 (zI i) v σ K = K (sI σ 96 i.toNat v) := stI_of rfl h0 h1 (by omega)
theorem aln_96 {K : Int32 → Rs} : alX sc0 96 K = K (zI 8) := rfl
theorem gdK_97 {X : Rs} : gdK 8 97 X = X := gdK_of rfl
theorem gfI_97 {y : Nat} {σ : Sg} {K : Int32 → Rs} : gfI 8 97 y σ K = K (σ.1 97 y) := gfI_of rfl
theorem pfI_97 {y : Nat} {v : Int32} {σ : Sg} {K : Sg → Rs} : pfI 8 97 y v σ K = K (sI σ 97 y v) := pfI_of rfl
theorem gfS_97_0 {K : Nat → Rs} : gfS 8 97 0 K = K 98 := gfS_of rfl
theorem gfS_97_1 {K : Nat → Rs} : gfS 8 97 1 K = K 99 := gfS_of rfl
theorem gfS_97_2 {K : Nat → Rs} : gfS 8 97 2 K = K 100 := gfS_of rfl
theorem gfS_97_8 {K : Nat → Rs} : gfS 8 97 8 K = K 101 := gfS_of rfl
theorem ldI_98 {i : Int} {σ : Sg} {K : Int32 → Rs} (h0 : 0 ≤ i) (h1 : i < 6) : ldX sc0 98 (zI i) σ K = K (σ.1 98 i.toNat) := ldI_of rfl h0 h1 (by omega)
theorem stI_98 {i : Int} {v : Int32} {σ : Sg} {K : Sg → Rs} (h0 : 0 ≤ i) (h1 : i < 6) : stI 98 (zI i) v σ K = K (sI σ 98 i.toNat v) := stI_of rfl h0 h1 (by omega)
theorem aln_98 {K : Int32 → Rs} : alX sc0 98 K = K (zI 6) := rfl
theorem ldI_99 {i : Int} {σ : Sg} {K : Int32 → Rs} (h0 : 0 ≤ i) (h1 : i < 6) : ldX sc0 99 (zI i) σ K = K (σ.1 99 i.toNat) := ldI_of rfl h0 h1 (by omega)
theorem stI_99 {i : Int} {v : Int32} {σ : Sg} {K : Sg → Rs} (h0 : 0 ≤ i) (h1 : i < 6) : stI 99 (zI i) v σ K = K (sI σ 99 i.toNat v) := stI_of rfl h0 h1 (by omega)
theorem aln_99 {K : Int32 → Rs} : alX sc0 99 K = K (zI 6) := rfl
theorem ldI_100 {i : Int} {σ : Sg} {K : Int32 → Rs} (h0 : 0 ≤ i) (h1 : i < 6) : ldX sc0 100 (zI i) σ K = K (σ.1 100 i.toNat) := ldI_of rfl h0 h1 (by omega)
theorem stI_100 {i : Int} {v : Int32} {σ : Sg} {K : Sg → Rs} (h0 : 0 ≤ i) (h1 : i < 6) : stI 100 (zI i) v σ K = K (sI σ 100 i.toNat v) := stI_of rfl h0 h1 (by omega)
theorem aln_100 {K : Int32 → Rs} : alX sc0 100 K = K (zI 6) := rfl
theorem ldI_101 {i : Int} {σ : Sg} {K : Int32 → Rs} (h0 : 0 ≤ i) (h1 : i < 8) : ldX sc0 101 (zI i) σ K = K (σ.1 101 i.toNat) := ldI_of rfl h0 h1 (by omega)
theorem stI_101 {i : Int} {v : Int32} {σ : Sg} {K : Sg → Rs} (h0 : 0 ≤ i) (h1 : i < 8) : stI 101 (zI i) v σ K = K (sI σ 101 i.toNat v) := stI_of rfl h0 h1 (by omega)
theorem aln_101 {K : Int32 → Rs} : alX sc0 101 K = K (zI 8) := rfl
theorem gdK_102 {X : Rs} : gdK 11 102 X = X := gdK_of rfl
theorem gfI_102 {y : Nat} {σ : Sg} {K : Int32 → Rs} : gfI 11 102 y σ K = K (σ.1 102 y) := gfI_of rfl
theorem pfI_102 {y : Nat} {v : Int32} {σ : Sg} {K : Sg → Rs} : pfI 11 102 y v σ K = K (sI σ 102 y v) := pfI_of rfl
theorem gfS_102_0 {K : Nat → Rs} : gfS 11 102 0 K = K 103 := gfS_of rfl
theorem gfS_102_1 {K : Nat → Rs} : gfS 11 102 1 K = K 104 := gfS_of rfl
theorem gfS_102_2 {K : Nat → Rs} : gfS 11 102 2 K = K 105 := gfS_of rfl
theorem gfS_102_3 {K : Nat → Rs} : gfS 11 102 3 K = K 106 := gfS_of rfl
theorem gfS_102_4 {K : Nat → Rs} : gfS 11 102 4 K = K 107 := gfS_of rfl
theorem gfS_102_6 {K : Nat → Rs} : gfS 11 102 6 K = K 108 := gfS_of rfl
theorem gfS_102_17 {K : Nat → Rs} : gfS 11 102 17 K = K 109 := gfS_of rfl
theorem gfS_102_18 {K : Nat → Rs} : gfS 11 102 18 K = K 110 := gfS_of rfl
theorem gfS_102_19 {K : Nat → Rs} : gfS 11 102 19 K = K 111 := gfS_of rfl
theorem gfS_102_20 {K : Nat → Rs} : gfS 11 102 20 K = K 112 := gfS_of rfl
theorem gfS_102_21 {K : Nat → Rs} : gfS 11 102 21 K = K 113 := gfS_of rfl
theorem gfS_102_22 {K : Nat → Rs} : gfS 11 102 22 K = K 114 := gfS_of rfl
theorem gfS_102_23 {K : Nat → Rs} : gfS 11 102 23 K = K 115 := gfS_of rfl
theorem gfS_102_24 {K : Nat → Rs} : gfS 11 102 24 K = K 116 := gfS_of rfl
theorem gfS_102_25 {K : Nat → Rs} : gfS 11 102 25 K = K 117 := gfS_of rfl
theorem gfS_102_26 {K : Nat → Rs} : gfS 11 102 26 K = K 118 := gfS_of rfl
theorem gfS_102_27 {K : Nat → Rs} : gfS 11 102 27 K = K 119 := gfS_of rfl
theorem gfS_102_28 {K : Nat → Rs} : gfS 11 102 28 K = K 120 := gfS_of rfl
theorem gfS_102_29 {K : Nat → Rs} : gfS 11 102 29 K = K 121 := gfS_of rfl
theorem gfS_102_30 {K : Nat → Rs} : gfS 11 102 30 K = K 122 := gfS_of rfl
theorem gfS_102_31 {K : Nat → Rs} : gfS 11 102 31 K = K 123 := gfS_of rfl
theorem gfS_102_33 {K : Nat → Rs} : gfS 11 102 33 K = K 124 := gfS_of rfl
theorem gfS_102_34 {K : Nat → Rs} : gfS 11 102 34 K = K 125 := gfS_of rfl
theorem gfS_102_35 {K : Nat → Rs} : gfS 11 102 35 K = K 126 := gfS_of rfl
theorem gfS_102_36 {K : Nat → Rs} : gfS 11 102 36 K = K 127 := gfS_of rfl
theorem gfS_102_37 {K : Nat → Rs} : gfS 11 102 37 K = K 128 := gfS_of rfl
theorem gfS_102_43 {K : Nat → Rs} : gfS 11 102 43 K = K 129 := gfS_of rfl
theorem gfS_102_44 {K : Nat → Rs} : gfS 11 102 44 K = K 130 := gfS_of rfl
theorem gfS_102_45 {K : Nat → Rs} : gfS 11 102 45 K = K 131 := gfS_of rfl
theorem gfS_102_47 {K : Nat → Rs} : gfS 11 102 47 K = K 132 := gfS_of rfl
theorem gfS_102_48 {K : Nat → Rs} : gfS 11 102 48 K = K 133 := gfS_of rfl
theorem gfS_102_49 {K : Nat → Rs} : gfS 11 102 49 K = K 134 := gfS_of rfl
theorem gfS_102_50 {K : Nat → Rs} : gfS 11 102 50 K = K 135 := gfS_of rfl
theorem gfS_102_51 {K : Nat → Rs} : gfS 11 102 51 K = K 136 := gfS_of rfl
theorem gfS_102_52 {K : Nat → Rs} : gfS 11 102 52 K = K 137 := gfS_of rfl
theorem gfS_102_54 {K : Nat → Rs} : gfS 11 102 54 K = K 138 := gfS_of rfl
theorem gfS_102_55 {K : Nat → Rs} : gfS 11 102 55 K = K 139 := gfS_of rfl
theorem gfS_102_56 {K : Nat → Rs} : gfS 11 102 56 K = K 140 := gfS_of rfl
theorem gfS_102_57 {K : Nat → Rs} : gfS 11 102 57 K = K 141 := gfS_of rfl
theorem gfS_102_59 {K : Nat → Rs} : gfS 11 102 59 K = K 142 := gfS_of rfl
theorem gfS_102_60 {K : Nat → Rs} : gfS 11 102 60 K = K 143 := gfS_of rfl
theorem gfS_102_61 {K : Nat → Rs} : gfS 11 102 61 K = K 144 := gfS_of rfl
theorem gfS_102_62 {K : Nat → Rs} : gfS 11 102 62 K = K 145 := gfS_of rfl
theorem gfS_102_63 {K : Nat → Rs} : gfS 11 102 63 K = K 146 := gfS_of rfl
theorem gfS_102_64 {K : Nat → Rs} : gfS 11 102 64 K = K 147 := gfS_of rfl
theorem gfS_102_65 {K : Nat → Rs} : gfS 11 102 65 K = K 148 := gfS_of rfl
theorem gfS_102_66 {K : Nat → Rs} : gfS 11 102 66 K = K 149 := gfS_of rfl
theorem gfS_102_67 {K : Nat → Rs} : gfS 11 102 67 K = K 150 := gfS_of rfl
theorem gfS_102_68 {K : Nat → Rs} : gfS 11 102 68 K = K 151 := gfS_of rfl
theorem gfS_102_71 {K : Nat → Rs} : gfS 11 102 71 K = K 152 := gfS_of rfl
theorem pfZ_102_72_0 {σ : Sg} {K : Sg → Rs} : pfZ 11 102 72 (zI 0) σ K = K (sI σ 102 72 (zI 0)) := pfZ_0 rfl
theorem pfZ_102_72_1 {σ : Sg} {K : Sg → Rs} : pfZ 11 102 72 (zI 1) σ K = K (sI σ 102 72 (zI 1)) := pfZ_1 rfl
theorem pfZ_102_73_0 {σ : Sg} {K : Sg → Rs} : pfZ 11 102 73 (zI 0) σ K = K (sI σ 102 73 (zI 0)) := pfZ_0 rfl
theorem pfZ_102_73_1 {σ : Sg} {K : Sg → Rs} : pfZ 11 102 73 (zI 1) σ K = K (sI σ 102 73 (zI 1)) := pfZ_1 rfl
theorem gfS_102_74 {K : Nat → Rs} : gfS 11 102 74 K = K 153 := gfS_of rfl
theorem gfS_102_75 {K : Nat → Rs} : gfS 11 102 75 K = K 154 := gfS_of rfl
theorem gfS_102_76 {K : Nat → Rs} : gfS 11 102 76 K = K 155 := gfS_of rfl
theorem gfS_102_77 {K : Nat → Rs} : gfS 11 102 77 K = K 156 := gfS_of rfl
theorem gfS_102_78 {K : Nat → Rs} : gfS 11 102 78 K = K 157 := gfS_of rfl
theorem pfZ_102_83_0 {σ : Sg} {K : Sg → Rs} : pfZ 11 102 83 (zI 0) σ K = K (sI σ 102 83 (zI 0)) := pfZ_0 rfl
theorem pfZ_102_83_1 {σ : Sg} {K : Sg → Rs} : pfZ 11 102 83 (zI 1) σ K = K (sI σ 102 83 (zI 1)) := pfZ_1 rfl
theorem ldI_103 {i : Int} {σ : Sg} {K : Int32 → Rs} (h0 : 0 ≤ i) (h1 : i < 20) : ldX sc0 103 (zI i) σ K = K (σ.1 103 i.toNat) := ldI_of rfl h0 h1 (by omega)
theorem stI_103 {i : Int} {v : Int32} {σ : Sg} {K : Sg → Rs} (h0 : 0 ≤ i) (h1 : i < 20) : stI 103 (zI i) v σ K = K (sI σ 103 i.toNat v) := stI_of rfl h0 h1 (by omega)
theorem aln_103 {K : Int32 → Rs} : alX sc0 103 K = K (zI 20) := rfl
theorem ldI_104 {i : Int} {σ : Sg} {K : Int32 → Rs} (h0 : 0 ≤ i) (h1 : i < 20) : ldX sc0 104 (zI i) σ K = K (σ.1 104 i.toNat) := ldI_of rfl h0 h1 (by omega)
theorem stI_104 {i : Int} {v : Int32} {σ : Sg} {K : Sg → Rs} (h0 : 0 ≤ i) (h1 : i < 20) : stI 104 (zI i) v σ K = K (sI σ 104 i.toNat v) := stI_of rfl h0 h1 (by omega)
theorem aln_104 {K : Int32 → Rs} : alX sc0 104 K = K (zI 20) := rfl
theorem ldI_105 {i : Int} {σ : Sg} {K : Int32 → Rs} (h0 : 0 ≤ i) (h1 : i < 20) : ldX sc0 105 (zI i) σ K = K (σ.1 105 i.toNat) := ldI_of rfl h0 h1 (by omega)
theorem stI_105 {i : Int} {v : Int32} {σ : Sg} {K : Sg → Rs} (h0 : 0 ≤ i) (h1 : i < 20) : stI 105 (zI i) v σ K = K (sI σ 105 i.toNat v) := stI_of rfl h0 h1 (by omega)
theorem aln_105 {K : Int32 → Rs} : alX sc0 105 K = K (zI 20) := rfl
theorem ldI_106 {i : Int} {σ : Sg} {K : Int32 → Rs} (h0 : 0 ≤ i) (h1 : i < 6) : ldX sc0 106 (zI i) σ K = K (σ.1 106 i.toNat) := ldI_of rfl h0 h1 (by omega)
theorem stI_106 {i : Int} {v : Int32} {σ : Sg} {K : Sg → Rs} (h0 : 0 ≤ i) (h1 : i < 6) : stI 106 (zI i) v σ K = K (sI σ 106 i.toNat v) := stI_of rfl h0 h1 (by omega)
theorem aln_106 {K : Int32 → Rs} : alX sc0 106 K = K (zI 6) := rfl
theorem ldI_107 {i : Int} {σ : Sg} {K : Int32 → Rs} (h0 : 0 ≤ i) (h1 : i < 6) : ldX sc0 107 (zI i) σ K = K (σ.1 107 i.toNat) := ldI_of rfl h0 h1 (by omega)
theorem stI_107 {i : Int} {v : Int32} {σ : Sg} {K : Sg → Rs} (h0 : 0 ≤ i) (h1 : i < 6) : stI 107 (zI i) v σ K = K (sI σ 107 i.toNat v) := stI_of rfl h0 h1 (by omega)
theorem aln_107 {K : Int32 → Rs} : alX sc0 107 K = K (zI 6) := rfl
theorem ldB_108 {i : Int} {σ : Sg} {K : Int32 → Rs} (h0 : 0 ≤ i) (h1 : i < 260) : ldB 108 (zI i) σ K = K (σ.1 108 i.toNat) := ldB_of rfl h0 h1 (by omega)
theorem stB_108 {i : Int} {v : Int32} {σ : Sg} {K : Sg → Rs} (h0 : 0 ≤ i) (h1 : i < 260) : stB 108 (zI i) v σ K = K (sI σ 108 i.toNat (vp_nar .byte v)) := stB_of rfl h0 h1 (by omega)
theorem ldI_109 {i : Int} {σ : Sg} {K : Int32 → Rs} (h0 : 0 ≤ i) (h1 : i < 260) : ldX sc0 109 (zI i) σ K = K (σ.1 109 i.toNat) := ldI_of rfl h0 h1 (by omega)
theorem stI_109 {i : Int} {v : Int32} {σ : Sg} {K : Sg → Rs} (h0 : 0 ≤ i) (h1 : i < 260) : stI 109 (zI i) v σ K = K (sI σ 109 i.toNat v) := stI_of rfl h0 h1 (by omega)
theorem aln_109 {K : Int32 → Rs} : alX sc0 109 K = K (zI 260) := rfl
theorem ldI_110 {i : Int} {σ : Sg} {K : Int32 → Rs} (h0 : 0 ≤ i) (h1 : i < 260) : ldX sc0 110 (zI i) σ K = K (σ.1 110 i.toNat) := ldI_of rfl h0 h1 (by omega)
theorem stI_110 {i : Int} {v : Int32} {σ : Sg} {K : Sg → Rs} (h0 : 0 ≤ i) (h1 : i < 260) : stI 110 (zI i) v σ K = K (sI σ 110 i.toNat v) := stI_of rfl h0 h1 (by omega)
theorem aln_110 {K : Int32 → Rs} : alX sc0 110 K = K (zI 260) := rfl
theorem ldI_111 {i : Int} {σ : Sg} {K : Int32 → Rs} (h0 : 0 ≤ i) (h1 : i < 16) : ldX sc0 111 (zI i) σ K = K (σ.1 111 i.toNat) := ldI_of rfl h0 h1 (by omega)
theorem stI_111 {i : Int} {v : Int32} {σ : Sg} {K : Sg → Rs} (h0 : 0 ≤ i) (h1 : i < 16) : stI 111 (zI i) v σ K = K (sI σ 111 i.toNat v) := stI_of rfl h0 h1 (by omega)
theorem aln_111 {K : Int32 → Rs} : alX sc0 111 K = K (zI 16) := rfl
theorem ldI_112 {i : Int} {σ : Sg} {K : Int32 → Rs} (h0 : 0 ≤ i) (h1 : i < 16) : ldX sc0 112 (zI i) σ K = K (σ.1 112 i.toNat) := ldI_of rfl h0 h1 (by omega)
theorem stI_112 {i : Int} {v : Int32} {σ : Sg} {K : Sg → Rs} (h0 : 0 ≤ i) (h1 : i < 16) : stI 112 (zI i) v σ K = K (sI σ 112 i.toNat v) := stI_of rfl h0 h1 (by omega)
theorem aln_112 {K : Int32 → Rs} : alX sc0 112 K = K (zI 16) := rfl
theorem ldI_113 {i : Int} {σ : Sg} {K : Int32 → Rs} (h0 : 0 ≤ i) (h1 : i < 16) : ldX sc0 113 (zI i) σ K = K (σ.1 113 i.toNat) := ldI_of rfl h0 h1 (by omega)
theorem stI_113 {i : Int} {v : Int32} {σ : Sg} {K : Sg → Rs} (h0 : 0 ≤ i) (h1 : i < 16) : stI 113 (zI i) v σ K = K (sI σ 113 i.toNat v) := stI_of rfl h0 h1 (by omega)
theorem aln_113 {K : Int32 → Rs} : alX sc0 113 K = K (zI 16) := rfl
theorem ldI_114 {i : Int} {σ : Sg} {K : Int32 → Rs} (h0 : 0 ≤ i) (h1 : i < 16) : ldX sc0 114 (zI i) σ K = K (σ.1 114 i.toNat) := ldI_of rfl h0 h1 (by omega)
theorem stI_114 {i : Int} {v : Int32} {σ : Sg} {K : Sg → Rs} (h0 : 0 ≤ i) (h1 : i < 16) : stI 114 (zI i) v σ K = K (sI σ 114 i.toNat v) := stI_of rfl h0 h1 (by omega)
theorem aln_114 {K : Int32 → Rs} : alX sc0 114 K = K (zI 16) := rfl
theorem ldI_115 {i : Int} {σ : Sg} {K : Int32 → Rs} (h0 : 0 ≤ i) (h1 : i < 260) : ldX sc0 115 (zI i) σ K = K (σ.1 115 i.toNat) := ldI_of rfl h0 h1 (by omega)
theorem stI_115 {i : Int} {v : Int32} {σ : Sg} {K : Sg → Rs} (h0 : 0 ≤ i) (h1 : i < 260) : stI 115 (zI i) v σ K = K (sI σ 115 i.toNat v) := stI_of rfl h0 h1 (by omega)
theorem aln_115 {K : Int32 → Rs} : alX sc0 115 K = K (zI 260) := rfl
theorem ldI_116 {i : Int} {σ : Sg} {K : Int32 → Rs} (h0 : 0 ≤ i) (h1 : i < 16) : ldX sc0 116 (zI i) σ K = K (σ.1 116 i.toNat) := ldI_of rfl h0 h1 (by omega)
theorem stI_116 {i : Int} {v : Int32} {σ : Sg} {K : Sg → Rs} (h0 : 0 ≤ i) (h1 : i < 16) : stI 116 (zI i) v σ K = K (sI σ 116 i.toNat v) := stI_of rfl h0 h1 (by omega)
theorem aln_116 {K : Int32 → Rs} : alX sc0 116 K = K (zI 16) := rfl
theorem ldI_117 {i : Int} {σ : Sg} {K : Int32 → Rs} (h0 : 0 ≤ i) (h1 : i < 16) : ldX sc0 117 (zI i) σ K = K (σ.1 117 i.toNat) := ldI_of rfl h0 h1 (by omega)
theorem stI_117 {i : Int} {v : Int32} {σ : Sg} {K : Sg → Rs} (h0 : 0 ≤ i) (h1 : i < 16) : stI 117 (zI i) v σ K = K (sI σ 117 i.toNat v) := stI_of rfl h0 h1 (by omega)
theorem aln_117 {K : Int32 → Rs} : alX sc0 117 K = K (zI 16) := rfl
theorem ldI_118 {i : Int} {σ : Sg} {K : Int32 → Rs} (h0 : 0 ≤ i) (h1 : i < 16) : ldX sc0 118 (zI i) σ K = K (σ.1 118 i.toNat) := ldI_of rfl h0 h1 (by omega)
theorem stI_118 {i : Int} {v : Int32} {σ : Sg} {K : Sg → Rs} (h0 : 0 ≤ i) (h1 : i < 16) : stI 118 (zI i) v σ K = K (sI σ 118 i.toNat v) := stI_of rfl h0 h1 (by omega)
theorem aln_118 {K : Int32 → Rs} : alX sc0 118 K = K (zI 16) := rfl
theorem ldI_119 {i : Int} {σ : Sg} {K : Int32 → Rs} (h0 : 0 ≤ i) (h1 : i < 16) : ldX sc0 119 (zI i) σ K = K (σ.1 119 i.toNat) := ldI_of rfl h0 h1 (by omega)
theorem stI_119 {i : Int} {v : Int32} {σ : Sg} {K : Sg → Rs} (h0 : 0 ≤ i) (h1 : i < 16) : stI 119 (zI i) v σ K = K (sI σ 119 i.toNat v) := stI_of rfl h0 h1 (by omega)
theorem aln_119 {K : Int32 → Rs} : alX sc0 119 K = K (zI 16) := rfl
theorem ldI_120 {i : Int} {σ : Sg} {K : Int32 → Rs} (h0 : 0 ≤ i) (h1 : i < 260) : ldX sc0 120 (zI i) σ K = K (σ.1 120 i.toNat) := ldI_of rfl h0 h1 (by omega)
theorem stI_120 {i : Int} {v : Int32} {σ : Sg} {K : Sg → Rs} (h0 : 0 ≤ i) (h1 : i < 260) : stI 120 (zI i) v σ K = K (sI σ 120 i.toNat v) := stI_of rfl h0 h1 (by omega)
theorem aln_120 {K : Int32 → Rs} : alX sc0 120 K = K (zI 260) := rfl
theorem ldI_121 {i : Int} {σ : Sg} {K : Int32 → Rs} (h0 : 0 ≤ i) (h1 : i < 8) : ldX sc0 121 (zI i) σ K = K (σ.1 121 i.toNat) := ldI_of rfl h0 h1 (by omega)
theorem stI_121 {i : Int} {v : Int32} {σ : Sg} {K : Sg → Rs} (h0 : 0 ≤ i) (h1 : i < 8) : stI 121 (zI i) v σ K = K (sI σ 121 i.toNat v) := stI_of rfl h0 h1 (by omega)
theorem aln_121 {K : Int32 → Rs} : alX sc0 121 K = K (zI 8) := rfl
theorem ldI_122 {i : Int} {σ : Sg} {K : Int32 → Rs} (h0 : 0 ≤ i) (h1 : i < 6) : ldX sc0 122 (zI i) σ K = K (σ.1 122 i.toNat) := ldI_of rfl h0 h1 (by omega)
theorem stI_122 {i : Int} {v : Int32} {σ : Sg} {K : Sg → Rs} (h0 : 0 ≤ i) (h1 : i < 6) : stI 122 (zI i) v σ K = K (sI σ 122 i.toNat v) := stI_of rfl h0 h1 (by omega)
theorem aln_122 {K : Int32 → Rs} : alX sc0 122 K = K (zI 6) := rfl
theorem ldI_123 {i : Int} {σ : Sg} {K : Int32 → Rs} (h0 : 0 ≤ i) (h1 : i < 6) : ldX sc0 123 (zI i) σ K = K (σ.1 123 i.toNat) := ldI_of rfl h0 h1 (by omega)
theorem stI_123 {i : Int} {v : Int32} {σ : Sg} {K : Sg → Rs} (h0 : 0 ≤ i) (h1 : i < 6) : stI 123 (zI i) v σ K = K (sI σ 123 i.toNat v) := stI_of rfl h0 h1 (by omega)
theorem aln_123 {K : Int32 → Rs} : alX sc0 123 K = K (zI 6) := rfl
theorem ldI_124 {i : Int} {σ : Sg} {K : Int32 → Rs} (h0 : 0 ≤ i) (h1 : i < 24) : ldX sc0 124 (zI i) σ K = K (σ.1 124 i.toNat) := ldI_of rfl h0 h1 (by omega)
theorem stI_124 {i : Int} {v : Int32} {σ : Sg} {K : Sg → Rs} (h0 : 0 ≤ i) (h1 : i < 24) : stI 124 (zI i) v σ K = K (sI σ 124 i.toNat v) := stI_of rfl h0 h1 (by omega)
theorem aln_124 {K : Int32 → Rs} : alX sc0 124 K = K (zI 24) := rfl
theorem ldI_125 {i : Int} {σ : Sg} {K : Int32 → Rs} (h0 : 0 ≤ i) (h1 : i < 24) : ldX sc0 125 (zI i) σ K = K (σ.1 125 i.toNat) := ldI_of rfl h0 h1 (by omega)
theorem stI_125 {i : Int} {v : Int32} {σ : Sg} {K : Sg → Rs} (h0 : 0 ≤ i) (h1 : i < 24) : stI 125 (zI i) v σ K = K (sI σ 125 i.toNat v) := stI_of rfl h0 h1 (by omega)
theorem aln_125 {K : Int32 → Rs} : alX sc0 125 K = K (zI 24) := rfl
theorem ldI_126 {i : Int} {σ : Sg} {K : Int32 → Rs} (h0 : 0 ≤ i) (h1 : i < 2) : ldX sc0 126 (zI i) σ K = K (σ.1 126 i.toNat) := ldI_of rfl h0 h1 (by omega)
theorem stI_126 {i : Int} {v : Int32} {σ : Sg} {K : Sg → Rs} (h0 : 0 ≤ i) (h1 : i < 2) : stI 126 (zI i) v σ K = K (sI σ 126 i.toNat v) := stI_of rfl h0 h1 (by omega)
theorem aln_126 {K : Int32 → Rs} : alX sc0 126 K = K (zI 2) := rfl
theorem ldI_127 {i : Int} {σ : Sg} {K : Int32 → Rs} (h0 : 0 ≤ i) (h1 : i < 2) : ldX sc0 127 (zI i) σ K = K (σ.1 127 i.toNat) := ldI_of rfl h0 h1 (by omega)
theorem stI_127 {i : Int} {v : Int32} {σ : Sg} {K : Sg → Rs} (h0 : 0 ≤ i) (h1 : i < 2) : stI 127 (zI i) v σ K = K (sI σ 127 i.toNat v) := stI_of rfl h0 h1 (by omega)
theorem aln_127 {K : Int32 → Rs} : alX sc0 127 K = K (zI 2) := rfl
theorem ldI_128 {i : Int} {σ : Sg} {K : Int32 → Rs} (h0 : 0 ≤ i) (h1 : i < 2) : ldX sc0 128 (zI i) σ K = K (σ.1 128 i.toNat) := ldI_of rfl h0 h1 (by omega)
theorem stI_128 {i : Int} {v : Int32} {σ : Sg} {K : Sg → Rs} (h0 : 0 ≤ i) (h1 : i < 2) : stI 128 (zI i) v σ K = K (sI σ 128 i.toNat v) := stI_of rfl h0 h1 (by omega)
theorem aln_128 {K : Int32 → Rs} : alX sc0 128 K = K (zI 2) := rfl
theorem ldI_129 {i : Int} {σ : Sg} {K : Int32 → Rs} (h0 : 0 ≤ i) (h1 : i < 6) : ldX sc0 129 (zI i) σ K = K (σ.1 129 i.toNat) := ldI_of rfl h0 h1 (by omega)
theorem stI_129 {i : Int} {v : Int32} {σ : Sg} {K : Sg → Rs} (h0 : 0 ≤ i) (h1 : i < 6) : stI 129 (zI i) v σ K = K (sI σ 129 i.toNat v) := stI_of rfl h0 h1 (by omega)
theorem aln_129 {K : Int32 → Rs} : alX sc0 129 K = K (zI 6) := rfl
theorem ldI_130 {i : Int} {σ : Sg} {K : Int32 → Rs} (h0 : 0 ≤ i) (h1 : i < 6) : ldX sc0 130 (zI i) σ K = K (σ.1 130 i.toNat) := ldI_of rfl h0 h1 (by omega)
theorem stI_130 {i : Int} {v : Int32} {σ : Sg} {K : Sg → Rs} (h0 : 0 ≤ i) (h1 : i < 6) : stI 130 (zI i) v σ K = K (sI σ 130 i.toNat v) := stI_of rfl h0 h1 (by omega)
theorem aln_130 {K : Int32 → Rs} : alX sc0 130 K = K (zI 6) := rfl
theorem ldI_131 {i : Int} {σ : Sg} {K : Int32 → Rs} (h0 : 0 ≤ i) (h1 : i < 720) : ldX sc0 131 (zI i) σ K = K (σ.1 131 i.toNat) := ldI_of rfl h0 h1 (by omega)
theorem stI_131 {i : Int} {v : Int32} {σ : Sg} {K : Sg → Rs} (h0 : 0 ≤ i) (h1 : i < 720) : stI 131 (zI i) v σ K = K (sI σ 131 i.toNat v) := stI_of rfl h0 h1 (by omega)
theorem aln_131 {K : Int32 → Rs} : alX sc0 131 K = K (zI 720) := rfl
theorem ldI_132 {i : Int} {σ : Sg} {K : Int32 → Rs} (h0 : 0 ≤ i) (h1 : i < 12) : ldX sc0 132 (zI i) σ K = K (σ.1 132 i.toNat) := ldI_of rfl h0 h1 (by omega)
theorem stI_132 {i : Int} {v : Int32} {σ : Sg} {K : Sg → Rs} (h0 : 0 ≤ i) (h1 : i < 12) : stI 132 (zI i) v σ K = K (sI σ 132 i.toNat v) := stI_of rfl h0 h1 (by omega)
theorem aln_132 {K : Int32 → Rs} : alX sc0 132 K = K (zI 12) := rfl
theorem ldI_133 {i : Int} {σ : Sg} {K : Int32 → Rs} (h0 : 0 ≤ i) (h1 : i < 1440) : ldX sc0 133 (zI i) σ K = K (σ.1 133 i.toNat) := ldI_of rfl h0 h1 (by omega)
theorem stI_133 {i : Int} {v : Int32} {σ : Sg} {K : Sg → Rs} (h0 : 0 ≤ i) (h1 : i < 1440) : stI 133 (zI i) v σ K = K (sI σ 133 i.toNat v) := stI_of rfl h0 h1 (by omega)
theorem aln_133 {K : Int32 → Rs} : alX sc0 133 K = K (zI 1440) := rfl
theorem ldI_134 {i : Int} {σ : Sg} {K : Int32 → Rs} (h0 : 0 ≤ i) (h1 : i < 1440) : ldX sc0 134 (zI i) σ K = K (σ.1 134 i.toNat) := ldI_of rfl h0 h1 (by omega)
theorem stI_134 {i : Int} {v : Int32} {σ : Sg} {K : Sg → Rs} (h0 : 0 ≤ i) (h1 : i < 1440) : stI 134 (zI i) v σ K = K (sI σ 134 i.toNat v) := stI_of rfl h0 h1 (by omega)
theorem aln_134 {K : Int32 → Rs} : alX sc0 134 K = K (zI 1440) := rfl
theorem ldI_135 {i : Int} {σ : Sg} {K : Int32 → Rs} (h0 : 0 ≤ i) (h1 : i < 1440) : ldX sc0 135 (zI i) σ K = K (σ.1 135 i.toNat) := ldI_of rfl h0 h1 (by omega)
theorem stI_135 {i : Int} {v : Int32} {σ : Sg} {K : Sg → Rs} (h0 : 0 ≤ i) (h1 : i < 1440) : stI 135 (zI i) v σ K = K (sI σ 135 i.toNat v) := stI_of rfl h0 h1 (by omega)
theorem aln_135 {K : Int32 → Rs} : alX sc0 135 K = K (zI 1440) := rfl
theorem ldI_136 {i : Int} {σ : Sg} {K : Int32 → Rs} (h0 : 0 ≤ i) (h1 : i < 1440) : ldX sc0 136 (zI i) σ K = K (σ.1 136 i.toNat) := ldI_of rfl h0 h1 (by omega)
theorem stI_136 {i : Int} {v : Int32} {σ : Sg} {K : Sg → Rs} (h0 : 0 ≤ i) (h1 : i < 1440) : stI 136 (zI i) v σ K = K (sI σ 136 i.toNat v) := stI_of rfl h0 h1 (by omega)
theorem aln_136 {K : Int32 → Rs} : alX sc0 136 K = K (zI 1440) := rfl
theorem ldI_137 {i : Int} {σ : Sg} {K : Int32 → Rs} (h0 : 0 ≤ i) (h1 : i < 1440) : ldX sc0 137 (zI i) σ K = K (σ.1 137 i.toNat) := ldI_of rfl h0 h1 (by omega)
theorem stI_137 {i : Int} {v : Int32} {σ : Sg} {K : Sg → Rs} (h0 : 0 ≤ i) (h1 : i < 1440) : stI 137 (zI i) v σ K = K (sI σ 137 i.toNat v) := stI_of rfl h0 h1 (by omega)
theorem aln_137 {K : Int32 → Rs} : alX sc0 137 K = K (zI 1440) := rfl
theorem aln_138 {K : Int32 → Rs} : alX sc0 138 K = K (zI 12) := rfl
theorem aln_139 {K : Int32 → Rs} : alX sc0 139 K = K (zI 12) := rfl
theorem ldI_140 {i : Int} {σ : Sg} {K : Int32 → Rs} (h0 : 0 ≤ i) (h1 : i < 6) : ldX sc0 140 (zI i) σ K = K (σ.1 140 i.toNat) := ldI_of rfl h0 h1 (by omega)
theorem stI_140 {i : Int} {v : Int32} {σ : Sg} {K : Sg → Rs} (h0 : 0 ≤ i) (h1 : i < 6) : stI 140 (zI i) v σ K = K (sI σ 140 i.toNat v) := stI_of rfl h0 h1 (by omega)
theorem aln_140 {K : Int32 → Rs} : alX sc0 140 K = K (zI 6) := rfl
theorem ldI_141 {i : Int} {σ : Sg} {K : Int32 → Rs} (h0 : 0 ≤ i) (h1 : i < 6) : ldX sc0 141 (zI i) σ K = K (σ.1 141 i.toNat) := ldI_of rfl h0 h1 (by omega)
theorem stI_141 {i : Int} {v : Int32} {σ : Sg} {K : Sg → Rs} (h0 : 0 ≤ i) (h1 : i < 6) : stI 141 (zI i) v σ K = K (sI σ 141 i.toNat v) := stI_of rfl h0 h1 (by omega)
theorem aln_141 {K : Int32 → Rs} : alX sc0 141 K = K (zI 6) := rfl
theorem ldI_142 {i : Int} {σ : Sg} {K : Int32 → Rs} (h0 : 0 ≤ i) (h1 : i < 24) : ldX sc0 142 (zI i) σ K = K (σ.1 142 i.toNat) := ldI_of rfl h0 h1 (by omega)
theorem stI_142 {i : Int} {v : Int32} {σ : Sg} {K : Sg → Rs} (h0 : 0 ≤ i) (h1 : i < 24) : stI 142 (zI i) v σ K = K (sI σ 142 i.toNat v) := stI_of rfl h0 h1 (by omega)
theorem aln_142 {K : Int32 → Rs} : alX sc0 142 K = K (zI 24) := rfl
theorem ldI_143 {i : Int} {σ : Sg} {K : Int32 → Rs} (h0 : 0 ≤ i) (h1 : i < 24) : ldX sc0 143 (zI i) σ K = K (σ.1 143 i.toNat) := ldI_of rfl h0 h1 (by omega)
theorem stI_143 {i : Int} {v : Int32} {σ : Sg} {K : Sg → Rs} (h0 : 0 ≤ i) (h1 : i < 24) : stI 143 (zI i) v σ K = K (sI σ 143 i.toNat v) := stI_of rfl h0 h1 (by omega)
theorem aln_143 {K : Int32 → Rs} : alX sc0 143 K = K (zI 24) := rfl
theorem ldI_144 {i : Int} {σ : Sg} {K : Int32 → Rs} (h0 : 0 ≤ i) (h1 : i < 24) : ldX sc0 144 (zI i) σ K = K (σ.1 144 i.toNat) := ldI_of rfl h0 h1 (by omega)
theorem stI_144 {i : Int} {v : Int32} {σ : Sg} {K : Sg → Rs} (h0 : 0 ≤ i) (h1 : i < 24) : stI 144 (zI i) v σ K = K (sI σ 144 i.toNat v) := stI_of rfl h0 h1 (by omega)
theorem aln_144 {K : Int32 → Rs} : alX sc0 144 K = K (zI 24) := rfl
theorem ldI_145 {i : Int} {σ : Sg} {K : Int32 → Rs} (h0 : 0 ≤ i) (h1 : i < 24) : ldX sc0 145 (zI i) σ K = K (σ.1 145 i.toNat) := ldI_of rfl h0 h1 (by omega)
theorem stI_145 {i : Int} {v : Int32} {σ : Sg} {K : Sg → Rs} (h0 : 0 ≤ i) (h1 : i < 24) : stI 145 (zI i) v σ K = K (sI σ 145 i.toNat v) := stI_of rfl h0 h1 (by omega)
theorem aln_145 {K : Int32 → Rs} : alX sc0 145 K = K (zI 24) := rfl
theorem ldI_146 {i : Int} {σ : Sg} {K : Int32 → Rs} (h0 : 0 ≤ i) (h1 : i < 24) : ldX sc0 146 (zI i) σ K = K (σ.1 146 i.toNat) := ldI_of rfl h0 h1 (by omega)
theorem stI_146 {i : Int} {v : Int32} {σ : Sg} {K : Sg → Rs} (h0 : 0 ≤ i) (h1 : i < 24) : stI 146 (zI i) v σ K = K (sI σ 146 i.toNat v) := stI_of rfl h0 h1 (by omega)
theorem aln_146 {K : Int32 → Rs} : alX sc0 146 K = K (zI 24) := rfl
theorem ldI_147 {i : Int} {σ : Sg} {K : Int32 → Rs} (h0 : 0 ≤ i) (h1 : i < 24) : ldX sc0 147 (zI i) σ K = K (σ.1 147 i.toNat) := ldI_of rfl h0 h1 (by omega)
theorem stI_147 {i : Int} {v : Int32} {σ : Sg} {K : Sg → Rs} (h0 : 0 ≤ i) (h1 : i < 24) : stI 147 (zI i) v σ K = K (sI σ 147 i.toNat v) := stI_of rfl h0 h1 (by omega)
theorem aln_147 {K : Int32 → Rs} : alX sc0 147 K = K (zI 24) := rfl
theorem ldI_148 {i : Int} {σ : Sg} {K : Int32 → Rs} (h0 : 0 ≤ i) (h1 : i < 24) : ldX sc0 148 (zI i) σ K = K (σ.1 148 i.toNat) := ldI_of rfl h0 h1 (by omega)
theorem stI_148 {i : Int} {v : Int32} {σ : Sg} {K : Sg → Rs} (h0 : 0 ≤ i) (h1 : i < 24) : stI 148 (zI i) v σ K = K (sI σ 148 i.toNat v) := stI_of rfl h0 h1 (by omega)
theorem aln_148 {K : Int32 → Rs} : alX sc0 148 K = K (zI 24) := rfl
theorem ldI_149 {i : Int} {σ : Sg} {K : Int32 → Rs} (h0 : 0 ≤ i) (h1 : i < 24) : ldX sc0 149 (zI i) σ K = K (σ.1 149 i.toNat) := ldI_of rfl h0 h1 (by omega)
theorem stI_149 {i : Int} {v : Int32} {σ : Sg} {K : Sg → Rs} (h0 : 0 ≤ i) (h1 : i < 24) : stI 149 (zI i) v σ K = K (sI σ 149 i.toNat v) := stI_of rfl h0 h1 (by omega)
theorem aln_149 {K : Int32 → Rs} : alX sc0 149 K = K (zI 24) := rfl
theorem ldI_150 {i : Int} {σ : Sg} {K : Int32 → Rs} (h0 : 0 ≤ i) (h1 : i < 24) : ldX sc0 150 (zI i) σ K = K (σ.1 150 i.toNat) := ldI_of rfl h0 h1 (by omega)
theorem stI_150 {i : Int} {v : Int32} {σ : Sg} {K : Sg → Rs} (h0 : 0 ≤ i) (h1 : i < 24) : stI 150 (zI i) v σ K = K (sI σ 150 i.toNat v) := stI_of rfl h0 h1 (by omega)
theorem aln_150 {K : Int32 → Rs} : alX sc0 150 K = K (zI 24) := rfl
theorem ldI_151 {i : Int} {σ : Sg} {K : Int32 → Rs} (h0 : 0 ≤ i) (h1 : i < 24) : ldX sc0 151 (zI i) σ K = K (σ.1 151 i.toNat) := ldI_of rfl h0 h1 (by omega)
theorem stI_151 {i : Int} {v : Int32} {σ : Sg} {K : Sg → Rs} (h0 : 0 ≤ i) (h1 : i < 24) : stI 151 (zI i) v σ K = K (sI σ 151 i.toNat v) := stI_of rfl h0 h1 (by omega)
theorem aln_151 {K : Int32 → Rs} : alX sc0 151 K = K (zI 24) := rfl
theorem ldI_152 {i : Int} {σ : Sg} {K : Int32 → Rs} (h0 : 0 ≤ i) (h1 : i < 24) : ldX sc0 152 (zI i) σ K = K (σ.1 152 i.toNat) := ldI_of rfl h0 h1 (by omega)
theorem stI_152 {i : Int} {v : Int32} {σ : Sg} {K : Sg → Rs} (h0 : 0 ≤ i) (h1 : i < 24) : stI 152 (zI i) v σ K = K (sI σ 152 i.toNat v) := stI_of rfl h0 h1 (by omega)
theorem aln_152 {K : Int32 → Rs} : alX sc0 152 K = K (zI 24) := rfl
theorem ldI_153 {i : Int} {σ : Sg} {K : Int32 → Rs} (h0 : 0 ≤ i) (h1 : i < 24) : ldX sc0 153 (zI i) σ K = K (σ.1 153 i.toNat) := ldI_of rfl h0 h1 (by omega)
theorem stI_153 {i : Int} {v : Int32} {σ : Sg} {K : Sg → Rs} (h0 : 0 ≤ i) (h1 : i < 24) : stI 153 (zI i) v σ K = K (sI σ 153 i.toNat v) := stI_of rfl h0 h1 (by omega)
theorem aln_153 {K : Int32 → Rs} : alX sc0 153 K = K (zI 24) := rfl
theorem ldI_154 {i : Int} {σ : Sg} {K : Int32 → Rs} (h0 : 0 ≤ i) (h1 : i < 24) : ldX sc0 154 (zI i) σ K = K (σ.1 154 i.toNat) := ldI_of rfl h0 h1 (by omega)
theorem stI_154 {i : Int} {v : Int32} {σ : Sg} {K : Sg → Rs} (h0 : 0 ≤ i) (h1 : i < 24) : stI 154 (zI i) v σ K = K (sI σ 154 i.toNat v) := stI_of rfl h0 h1 (by omega)
theorem aln_154 {K : Int32 → Rs} : alX sc0 154 K = K (zI 24) := rfl
theorem ldI_155 {i : Int} {σ : Sg} {K : Int32 → Rs} (h0 : 0 ≤ i) (h1 : i < 24) : ldX sc0 155 (zI i) σ K = K (σ.1 155 i.toNat) := ldI_of rfl h0 h1 (by omega)
theorem stI_155 {i : Int} {v : Int32} {σ : Sg} {K : Sg → Rs} (h0 : 0 ≤ i) (h1 : i < 24) : stI 155 (zI i) v σ K = K (sI σ 155 i.toNat v) := stI_of rfl h0 h1 (by omega)
theorem aln_155 {K : Int32 → Rs} : alX sc0 155 K = K (zI 24) := rfl
theorem ldI_156 {i : Int} {σ : Sg} {K : Int32 → Rs} (h0 : 0 ≤ i) (h1 : i < 24) : ldX sc0 156 (zI i) σ K = K (σ.1 156 i.toNat) := ldI_of rfl h0 h1 (by omega)
theorem stI_156 {i : Int} {v : Int32} {σ : Sg} {K : Sg → Rs} (h0 : 0 ≤ i) (h1 : i < 24) : stI 156 (zI i) v σ K = K (sI σ 156 i.toNat v) := stI_of rfl h0 h1 (by omega)
theorem aln_156 {K : Int32 → Rs} : alX sc0 156 K = K (zI 24) := rfl
theorem ldI_157 {i : Int} {σ : Sg} {K : Int32 → Rs} (h0 : 0 ≤ i) (h1 : i < 24) : ldX sc0 157 (zI i) σ K = K (σ.1 157 i.toNat) := ldI_of rfl h0 h1 (by omega)
theorem stI_157 {i : Int} {v : Int32} {σ : Sg} {K : Sg → Rs} (h0 : 0 ≤ i) (h1 : i < 24) : stI 157 (zI i) v σ K = K (sI σ 157 i.toNat v) := stI_of rfl h0 h1 (by omega)
theorem aln_157 {K : Int32 → Rs} : alX sc0 157 K = K (zI 24) := rfl
theorem ldC_1 {i : Int} {σ : Sg} {K : Int32 → Rs} (h0 : 0 ≤ i) (h1 : i < 8) : ldC 1 (zI i) σ K = K (FC 1 i.toNat) := ldCS_of rfl h0 h1 (by omega)
theorem aln_1 {K : Int32 → Rs} : alX sc0 1 K = K (zI 8) := rfl
theorem ldC_3 {i : Int} {σ : Sg} {K : Int32 → Rs} (h0 : 0 ≤ i) (h1 : i < 8) : ldC 3 (zI i) σ K = K (FC 3 i.toNat) := ldCS_of rfl h0 h1 (by omega)
theorem aln_3 {K : Int32 → Rs} : alX sc0 3 K = K (zI 8) := rfl
theorem ldI_2 {i : Int} {σ : Sg} {K : Int32 → Rs} (h0 : 0 ≤ i) (h1 : i < 7) : ldX sc0 2 (zI i) σ K = K (FC 2 i.toNat) := ldS_of rfl h0 h1 (by omega)
