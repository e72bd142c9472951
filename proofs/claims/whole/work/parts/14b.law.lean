noncomputable def f_L_18 (L : Nat) (xs : Nat → Int32) (d : Nat) (x3 : Int32) (σ : Sg) : Rs := evAt (L + 1, xs) (ev d) cd_L (jmp cd_L 18) [.ref 0, .ref 4, .ref 102, .int x3] [] σ
noncomputable def f_L_172 (L : Nat) (xs : Nat → Int32) (d : Nat) (x3 : Int32) (σ : Sg) : Rs := evAt (L + 1, xs) (ev d) cd_L (jmp cd_L 172) [.ref 0, .ref 4, .ref 102, .int x3] [] σ
noncomputable def f_L_225 (L : Nat) (xs : Nat → Int32) (d : Nat) (x3 : Int32) (σ : Sg) : Rs := evAt (L + 1, xs) (ev d) cd_L (jmp cd_L 225) [.ref 0, .ref 4, .ref 102, .int x3] [] σ
noncomputable def f_L_288 (L : Nat) (xs : Nat → Int32) (d : Nat) (x3 : Int32) (σ : Sg) : Rs := evAt (L + 1, xs) (ev d) cd_L (jmp cd_L 288) [.ref 0, .ref 4, .ref 102, .int x3] [] σ
noncomputable def f_L_311 (L : Nat) (xs : Nat → Int32) (d : Nat) (x3 : Int32) (σ : Sg) : Rs := evAt (L + 1, xs) (ev d) cd_L (jmp cd_L 311) [.ref 0, .ref 4, .ref 102, .int x3] [] σ
noncomputable def f_L_334 (L : Nat) (xs : Nat → Int32) (d : Nat) (x3 : Int32) (σ : Sg) : Rs := evAt (L + 1, xs) (ev d) cd_L (jmp cd_L 334) [.ref 0, .ref 4, .ref 102, .int x3] [] σ
noncomputable def f_L_357 (L : Nat) (xs : Nat → Int32) (d : Nat) (x3 : Int32) (σ : Sg) : Rs := evAt (L + 1, xs) (ev d) cd_L (jmp cd_L 357) [.ref 0, .ref 4, .ref 102, .int x3] [] σ
noncomputable def f_L_400 (L : Nat) (xs : Nat → Int32) (d : Nat) (x3 : Int32) (σ : Sg) : Rs := evAt (L + 1, xs) (ev d) cd_L (jmp cd_L 400) [.ref 0, .ref 4, .ref 102, .int x3] [] σ
noncomputable def f_L_443 (L : Nat) (xs : Nat → Int32) (d : Nat) (x3 : Int32) (σ : Sg) : Rs := evAt (L + 1, xs) (ev d) cd_L (jmp cd_L 443) [.ref 0, .ref 4, .ref 102, .int x3] [] σ
noncomputable def f_L_466 (L : Nat) (xs : Nat → Int32) (d : Nat) (x3 : Int32) (σ : Sg) : Rs := evAt (L + 1, xs) (ev d) cd_L (jmp cd_L 466) [.ref 0, .ref 4, .ref 102, .int x3] [] σ
noncomputable def f_L_529 (L : Nat) (xs : Nat → Int32) (d : Nat) (x3 : Int32) (σ : Sg) : Rs := evAt (L + 1, xs) (ev d) cd_L (jmp cd_L 529) [.ref 0, .ref 4, .ref 102, .int x3] [] σ
noncomputable def f_L_552 (L : Nat) (xs : Nat → Int32) (d : Nat) (x3 : Int32) (σ : Sg) : Rs := evAt (L + 1, xs) (ev d) cd_L (jmp cd_L 552) [.ref 0, .ref 4, .ref 102, .int x3] [] σ
noncomputable def f_L_616 (L : Nat) (xs : Nat → Int32) (d : Nat) (x3 : Int32) (σ : Sg) : Rs := evAt (L + 1, xs) (ev d) cd_L (jmp cd_L 616) [.ref 0, .ref 4, .ref 102, .int x3] [] σ
noncomputable def f_L_659 (L : Nat) (xs : Nat → Int32) (d : Nat) (x3 : Int32) (σ : Sg) : Rs := evAt (L + 1, xs) (ev d) cd_L (jmp cd_L 659) [.ref 0, .ref 4, .ref 102, .int x3] [] σ
noncomputable def f_L_692 (L : Nat) (xs : Nat → Int32) (d : Nat) (x3 : Int32) (σ : Sg) : Rs := evAt (L + 1, xs) (ev d) cd_L (jmp cd_L 692) [.ref 0, .ref 4, .ref 102, .int x3] [] σ
noncomputable def f_L_715 (L : Nat) (xs : Nat → Int32) (d : Nat) (x3 : Int32) (σ : Sg) : Rs := evAt (L + 1, xs) (ev d) cd_L (jmp cd_L 715) [.ref 0, .ref 4, .ref 102, .int x3] [] σ
noncomputable def f_L_738 (L : Nat) (xs : Nat → Int32) (d : Nat) (x3 : Int32) (σ : Sg) : Rs := evAt (L + 1, xs) (ev d) cd_L (jmp cd_L 738) [.ref 0, .ref 4, .ref 102, .int x3] [] σ
noncomputable def f_L_761 (L : Nat) (xs : Nat → Int32) (d : Nat) (x3 : Int32) (σ : Sg) : Rs := evAt (L + 1, xs) (ev d) cd_L (jmp cd_L 761) [.ref 0, .ref 4, .ref 102, .int x3] [] σ
noncomputable def f_L_804 (L : Nat) (xs : Nat → Int32) (d : Nat) (x3 : Int32) (σ : Sg) : Rs := evAt (L + 1, xs) (ev d) cd_L (jmp cd_L 804) [.ref 0, .ref 4, .ref 102, .int x3] [] σ
noncomputable def f_L_837 (L : Nat) (xs : Nat → Int32) (d : Nat) (x3 : Int32) (σ : Sg) : Rs := evAt (L + 1, xs) (ev d) cd_L (jmp cd_L 837) [.ref 0, .ref 4, .ref 102, .int x3] [] σ
noncomputable def f_L_860 (L : Nat) (xs : Nat → Int32) (d : Nat) (x3 : Int32) (σ : Sg) : Rs := evAt (L + 1, xs) (ev d) cd_L (jmp cd_L 860) [.ref 0, .ref 4, .ref 102, .int x3] [] σ
noncomputable def f_L_873 (L : Nat) (xs : Nat → Int32) (d : Nat) (x3 : Int32) (σ : Sg) : Rs := evAt (L + 1, xs) (ev d) cd_L (jmp cd_L 873) [.ref 0, .ref 4, .ref 102, .int x3] [] σ
noncomputable def f_L_906 (L : Nat) (xs : Nat → Int32) (d : Nat) (x3 : Int32) (σ : Sg) : Rs := evAt (L + 1, xs) (ev d) cd_L (jmp cd_L 906) [.ref 0, .ref 4, .ref 102, .int x3] [] σ
noncomputable def f_L_929 (L : Nat) (xs : Nat → Int32) (d : Nat) (x3 : Int32) (σ : Sg) : Rs := evAt (L + 1, xs) (ev d) cd_L (jmp cd_L 929) [.ref 0, .ref 4, .ref 102, .int x3] [] σ
noncomputable def f_L_962 (L : Nat) (xs : Nat → Int32) (d : Nat) (x3 : Int32) (σ : Sg) : Rs := evAt (L + 1, xs) (ev d) cd_L (jmp cd_L 962) [.ref 0, .ref 4, .ref 102, .int x3] [] σ
noncomputable def f_L_995 (L : Nat) (xs : Nat → Int32) (d : Nat) (x3 : Int32) (σ : Sg) : Rs := evAt (L + 1, xs) (ev d) cd_L (jmp cd_L 995) [.ref 0, .ref 4, .ref 102, .int x3] [] σ
noncomputable def f_L_1028 (L : Nat) (xs : Nat → Int32) (d : Nat) (x3 : Int32) (σ : Sg) : Rs := evAt (L + 1, xs) (ev d) cd_L (jmp cd_L 1028) [.ref 0, .ref 4, .ref 102, .int x3] [] σ
noncomputable def f_L_1051 (L : Nat) (xs : Nat → Int32) (d : Nat) (x3 : Int32) (σ : Sg) : Rs := evAt (L + 1, xs) (ev d) cd_L (jmp cd_L 1051) [.ref 0, .ref 4, .ref 102, .int x3] [] σ
noncomputable def f_L_1074 (L : Nat) (xs : Nat → Int32) (d : Nat) (x3 : Int32) (σ : Sg) : Rs := evAt (L + 1, xs) (ev d) cd_L (jmp cd_L 1074) [.ref 0, .ref 4, .ref 102, .int x3] [] σ
noncomputable def f_L_1087 (L : Nat) (xs : Nat → Int32) (d : Nat) (x3 : Int32) (σ : Sg) : Rs := evAt (L + 1, xs) (ev d) cd_L (jmp cd_L 1087) [.ref 0, .ref 4, .ref 102, .int x3] [] σ
noncomputable def f_L_1100 (L : Nat) (xs : Nat → Int32) (d : Nat) (x3 : Int32) (σ : Sg) : Rs := evAt (L + 1, xs) (ev d) cd_L (jmp cd_L 1100) [.ref 0, .ref 4, .ref 102, .int x3] [] σ
noncomputable def f_L_1123 (L : Nat) (xs : Nat → Int32) (d : Nat) (x3 : Int32) (σ : Sg) : Rs := evAt (L + 1, xs) (ev d) cd_L (jmp cd_L 1123) [.ref 0, .ref 4, .ref 102, .int x3] [] σ
set_option maxRecDepth 20000 in
theorem f_L_18_eq (L : Nat) (xs : Nat → Int32) (d : Nat) (x3 : Int32) (σ : Sg) : f_L_18 L xs d x3 σ =
if ((Int32.ofNat L) - 6) < x3 then (
rZ 1 σ)
else (
bnd x3 L (
if ((xs (ix x3)) &&& 31) = 0 then (
f_L_172 L xs d x3 σ)
else if ((xs (ix x3)) &&& 31) = 1 then (
f_L_225 L xs d x3 σ)
else if ((xs (ix x3)) &&& 31) = 2 then (
f_L_288 L xs d x3 σ)
else if ((xs (ix x3)) &&& 31) = 3 then (
f_L_311 L xs d x3 σ)
else if ((xs (ix x3)) &&& 31) = 4 then (
f_L_334 L xs d x3 σ)
else if ((xs (ix x3)) &&& 31) = 5 then (
f_L_357 L xs d x3 σ)
else if ((xs (ix x3)) &&& 31) = 6 then (
f_L_400 L xs d x3 σ)
else if ((xs (ix x3)) &&& 31) = 7 then (
f_L_443 L xs d x3 σ)
else if ((xs (ix x3)) &&& 31) = 8 then (
f_L_466 L xs d x3 σ)
else if ((xs (ix x3)) &&& 31) = 9 then (
f_L_529 L xs d x3 σ)
else if ((xs (ix x3)) &&& 31) = 10 then (
f_L_552 L xs d x3 σ)
else if ((xs (ix x3)) &&& 31) = 11 then (
f_L_616 L xs d x3 σ)
else if ((xs (ix x3)) &&& 31) = 12 then (
f_L_659 L xs d x3 σ)
else if ((xs (ix x3)) &&& 31) = 13 then (
f_L_692 L xs d x3 σ)
else if ((xs (ix x3)) &&& 31) = 14 then (
f_L_715 L xs d x3 σ)
else if ((xs (ix x3)) &&& 31) = 15 then (
f_L_738 L xs d x3 σ)
else if ((xs (ix x3)) &&& 31) = 16 then (
f_L_761 L xs d x3 σ)
else if ((xs (ix x3)) &&& 31) = 17 then (
f_L_804 L xs d x3 σ)
else if ((xs (ix x3)) &&& 31) = 18 then (
f_L_837 L xs d x3 σ)
else if ((xs (ix x3)) &&& 31) = 19 then (
f_L_860 L xs d x3 σ)
else if ((xs (ix x3)) &&& 31) = 20 then (
f_L_873 L xs d x3 σ)
else if ((xs (ix x3)) &&& 31) = 21 then (
f_L_906 L xs d x3 σ)
else if ((xs (ix x3)) &&& 31) = 22 then (
f_L_929 L xs d x3 σ)
else if ((xs (ix x3)) &&& 31) = 23 then (
f_L_962 L xs d x3 σ)
else if ((xs (ix x3)) &&& 31) = 24 then (
f_L_995 L xs d x3 σ)
else if ((xs (ix x3)) &&& 31) = 25 then (
f_L_1028 L xs d x3 σ)
else if ((xs (ix x3)) &&& 31) = 26 then (
f_L_1051 L xs d x3 σ)
else if ((xs (ix x3)) &&& 31) = 27 then (
f_L_1074 L xs d x3 σ)
else if ((xs (ix x3)) &&& 31) = 28 then (
f_L_1087 L xs d x3 σ)
else if ((xs (ix x3)) &&& 31) = 29 then (
f_L_1100 L xs d x3 σ)
else if ((xs (ix x3)) &&& 31) = 30 then (
f_L_1123 L xs d x3 σ)
else (
f_L_18 L xs d (x3 + 6) σ))) :=
  evAt_un [18, 172, 225, 288, 311, 334, 357, 400, 443, 466, 529, 552, 616, 659, 692, 715, 738, 761, 804, 837, 860, 873, 906, 929, 962, 995, 1028, 1051, 1074, 1087, 1100, 1123] 16 (jmp cd_L 18) [.ref 0, .ref 4, .ref 102, .int x3] [] σ
set_option maxRecDepth 20000 in
theorem f_L_172_eq (L : Nat) (xs : Nat → Int32) (d : Nat) (x3 : Int32) (σ : Sg) : f_L_172 L xs d x3 σ =
bnd (x3 + 1) L (
bnd (x3 + 2) L (
bnd (x3 + 3) L (
bnd (x3 + 4) L (
cI (f_N_people d (xs (ix (x3 + 1))) (xs (ix (x3 + 2))) (xs (ix (x3 + 3))) (xs (ix (x3 + 4))) σ) fun v2 σ1 =>
bnd (x3 + 1) L (
bnd (x3 + 2) L (
bnd (x3 + 3) L (
bnd (x3 + 4) L (
cI (f_M_people d (xs (ix (x3 + 1))) (xs (ix (x3 + 2))) (xs (ix (x3 + 3))) (xs (ix (x3 + 4))) σ1) fun v4 σ3 =>
if v2 = v4 then (
f_L_18 L xs d (x3 + 6) σ3)
else (
rZ 0 σ3))))))))) :=
  evAt_un [18, 172, 225, 288, 311, 334, 357, 400, 443, 466, 529, 552, 616, 659, 692, 715, 738, 761, 804, 837, 860, 873, 906, 929, 962, 995, 1028, 1051, 1074, 1087, 1100, 1123] 49 (jmp cd_L 172) [.ref 0, .ref 4, .ref 102, .int x3] [] σ
set_option maxRecDepth 20000 in
theorem f_L_225_eq (L : Nat) (xs : Nat → Int32) (d : Nat) (x3 : Int32) (σ : Sg) : f_L_225 L xs d x3 σ =
bnd (x3 + 1) L (
bnd (x3 + 2) L (
bnd (x3 + 3) L (
bnd (x3 + 4) L (
bnd (x3 + 5) L (
cI (f_N_feed d (xs (ix (x3 + 1))) (xs (ix (x3 + 2))) (xs (ix (x3 + 3))) (xs (ix (x3 + 4))) (xs (ix (x3 + 5))) σ) fun v2 σ1 =>
bnd (x3 + 1) L (
bnd (x3 + 2) L (
bnd (x3 + 3) L (
bnd (x3 + 4) L (
bnd (x3 + 5) L (
cI (f_M_feed d (xs (ix (x3 + 1))) (xs (ix (x3 + 2))) (xs (ix (x3 + 3))) (xs (ix (x3 + 4))) (xs (ix (x3 + 5))) σ1) fun v4 σ3 =>
if v2 = v4 then (
f_L_18 L xs d (x3 + 6) σ3)
else (
rZ 0 σ3))))))))))) :=
  evAt_un [18, 172, 225, 288, 311, 334, 357, 400, 443, 466, 529, 552, 616, 659, 692, 715, 738, 761, 804, 837, 860, 873, 906, 929, 962, 995, 1028, 1051, 1074, 1087, 1100, 1123] 59 (jmp cd_L 225) [.ref 0, .ref 4, .ref 102, .int x3] [] σ
set_option maxRecDepth 20000 in
theorem f_L_288_eq (L : Nat) (xs : Nat → Int32) (d : Nat) (x3 : Int32) (σ : Sg) : f_L_288 L xs d x3 σ =
bnd (x3 + 1) L (
cI (f_N_law d (xs (ix (x3 + 1))) σ) fun v2 σ1 =>
bnd (x3 + 1) L (
cI (f_M_law d (xs (ix (x3 + 1))) σ1) fun v4 σ3 =>
if v2 = v4 then (
f_L_18 L xs d (x3 + 6) σ3)
else (
rZ 0 σ3))) :=
  evAt_un [18, 172, 225, 288, 311, 334, 357, 400, 443, 466, 529, 552, 616, 659, 692, 715, 738, 761, 804, 837, 860, 873, 906, 929, 962, 995, 1028, 1051, 1074, 1087, 1100, 1123] 19 (jmp cd_L 288) [.ref 0, .ref 4, .ref 102, .int x3] [] σ
set_option maxRecDepth 20000 in
theorem f_L_311_eq (L : Nat) (xs : Nat → Int32) (d : Nat) (x3 : Int32) (σ : Sg) : f_L_311 L xs d x3 σ =
bnd (x3 + 1) L (
cI (f_N_rule d (xs (ix (x3 + 1))) σ) fun v2 σ1 =>
bnd (x3 + 1) L (
cI (f_M_rule d (xs (ix (x3 + 1))) σ1) fun v4 σ3 =>
if v2 = v4 then (
f_L_18 L xs d (x3 + 6) σ3)
else (
rZ 0 σ3))) :=
  evAt_un [18, 172, 225, 288, 311, 334, 357, 400, 443, 466, 529, 552, 616, 659, 692, 715, 738, 761, 804, 837, 860, 873, 906, 929, 962, 995, 1028, 1051, 1074, 1087, 1100, 1123] 19 (jmp cd_L 311) [.ref 0, .ref 4, .ref 102, .int x3] [] σ
set_option maxRecDepth 20000 in
theorem f_L_334_eq (L : Nat) (xs : Nat → Int32) (d : Nat) (x3 : Int32) (σ : Sg) : f_L_334 L xs d x3 σ =
bnd (x3 + 1) L (
cI (f_N_roll d (xs (ix (x3 + 1))) σ) fun v2 σ1 =>
bnd (x3 + 1) L (
cI (f_M_roll d (xs (ix (x3 + 1))) σ1) fun v4 σ3 =>
if v2 = v4 then (
f_L_18 L xs d (x3 + 6) σ3)
else (
rZ 0 σ3))) :=
  evAt_un [18, 172, 225, 288, 311, 334, 357, 400, 443, 466, 529, 552, 616, 659, 692, 715, 738, 761, 804, 837, 860, 873, 906, 929, 962, 995, 1028, 1051, 1074, 1087, 1100, 1123] 19 (jmp cd_L 334) [.ref 0, .ref 4, .ref 102, .int x3] [] σ
set_option maxRecDepth 20000 in
theorem f_L_357_eq (L : Nat) (xs : Nat → Int32) (d : Nat) (x3 : Int32) (σ : Sg) : f_L_357 L xs d x3 σ =
bnd (x3 + 1) L (
bnd (x3 + 2) L (
bnd (x3 + 3) L (
cI (f_N_kin d (xs (ix (x3 + 1))) (xs (ix (x3 + 2))) (xs (ix (x3 + 3))) σ) fun v2 σ1 =>
bnd (x3 + 1) L (
bnd (x3 + 2) L (
bnd (x3 + 3) L (
cI (f_M_kin d (xs (ix (x3 + 1))) (xs (ix (x3 + 2))) (xs (ix (x3 + 3))) σ1) fun v4 σ3 =>
if v2 = v4 then (
f_L_18 L xs d (x3 + 6) σ3)
else (
rZ 0 σ3))))))) :=
  evAt_un [18, 172, 225, 288, 311, 334, 357, 400, 443, 466, 529, 552, 616, 659, 692, 715, 738, 761, 804, 837, 860, 873, 906, 929, 962, 995, 1028, 1051, 1074, 1087, 1100, 1123] 39 (jmp cd_L 357) [.ref 0, .ref 4, .ref 102, .int x3] [] σ
set_option maxRecDepth 20000 in
theorem f_L_400_eq (L : Nat) (xs : Nat → Int32) (d : Nat) (x3 : Int32) (σ : Sg) : f_L_400 L xs d x3 σ =
bnd (x3 + 1) L (
bnd (x3 + 2) L (
bnd (x3 + 3) L (
cI (f_N_alike d (xs (ix (x3 + 1))) (xs (ix (x3 + 2))) (xs (ix (x3 + 3))) σ) fun v2 σ1 =>
bnd (x3 + 1) L (
bnd (x3 + 2) L (
bnd (x3 + 3) L (
cI (f_M_alike d (xs (ix (x3 + 1))) (xs (ix (x3 + 2))) (xs (ix (x3 + 3))) σ1) fun v4 σ3 =>
if v2 = v4 then (
f_L_18 L xs d (x3 + 6) σ3)
else (
rZ 0 σ3))))))) :=
  evAt_un [18, 172, 225, 288, 311, 334, 357, 400, 443, 466, 529, 552, 616, 659, 692, 715, 738, 761, 804, 837, 860, 873, 906, 929, 962, 995, 1028, 1051, 1074, 1087, 1100, 1123] 39 (jmp cd_L 400) [.ref 0, .ref 4, .ref 102, .int x3] [] σ
set_option maxRecDepth 20000 in
theorem f_L_443_eq (L : Nat) (xs : Nat → Int32) (d : Nat) (x3 : Int32) (σ : Sg) : f_L_443 L xs d x3 σ =
bnd (x3 + 1) L (
cI (f_N_ways d (xs (ix (x3 + 1))) σ) fun v2 σ1 =>
bnd (x3 + 1) L (
cI (f_M_ways d (xs (ix (x3 + 1))) σ1) fun v4 σ3 =>
if v2 = v4 then (
f_L_18 L xs d (x3 + 6) σ3)
else (
rZ 0 σ3))) :=
  evAt_un [18, 172, 225, 288, 311, 334, 357, 400, 443, 466, 529, 552, 616, 659, 692, 715, 738, 761, 804, 837, 860, 873, 906, 929, 962, 995, 1028, 1051, 1074, 1087, 1100, 1123] 19 (jmp cd_L 443) [.ref 0, .ref 4, .ref 102, .int x3] [] σ
set_option maxRecDepth 20000 in
theorem f_L_466_eq (L : Nat) (xs : Nat → Int32) (d : Nat) (x3 : Int32) (σ : Sg) : f_L_466 L xs d x3 σ =
bnd (x3 + 1) L (
bnd (x3 + 2) L (
bnd (x3 + 3) L (
bnd (x3 + 4) L (
bnd (x3 + 5) L (
cI (f_N_term d (xs (ix (x3 + 1))) (xs (ix (x3 + 2))) (xs (ix (x3 + 3))) (xs (ix (x3 + 4))) (xs (ix (x3 + 5))) σ) fun v2 σ1 =>
bnd (x3 + 1) L (
bnd (x3 + 2) L (
bnd (x3 + 3) L (
bnd (x3 + 4) L (
bnd (x3 + 5) L (
cI (f_M_term d (xs (ix (x3 + 1))) (xs (ix (x3 + 2))) (xs (ix (x3 + 3))) (xs (ix (x3 + 4))) (xs (ix (x3 + 5))) σ1) fun v4 σ3 =>
if v2 = v4 then (
f_L_18 L xs d (x3 + 6) σ3)
else (
rZ 0 σ3))))))))))) :=
  evAt_un [18, 172, 225, 288, 311, 334, 357, 400, 443, 466, 529, 552, 616, 659, 692, 715, 738, 761, 804, 837, 860, 873, 906, 929, 962, 995, 1028, 1051, 1074, 1087, 1100, 1123] 59 (jmp cd_L 466) [.ref 0, .ref 4, .ref 102, .int x3] [] σ
set_option maxRecDepth 20000 in
theorem f_L_529_eq (L : Nat) (xs : Nat → Int32) (d : Nat) (x3 : Int32) (σ : Sg) : f_L_529 L xs d x3 σ =
bnd (x3 + 1) L (
cI (f_N_cousin d (xs (ix (x3 + 1))) σ) fun v2 σ1 =>
bnd (x3 + 1) L (
cI (f_M_cousin d (xs (ix (x3 + 1))) σ1) fun v4 σ3 =>
if v2 = v4 then (
f_L_18 L xs d (x3 + 6) σ3)
else (
rZ 0 σ3))) :=
  evAt_un [18, 172, 225, 288, 311, 334, 357, 400, 443, 466, 529, 552, 616, 659, 692, 715, 738, 761, 804, 837, 860, 873, 906, 929, 962, 995, 1028, 1051, 1074, 1087, 1100, 1123] 19 (jmp cd_L 529) [.ref 0, .ref 4, .ref 102, .int x3] [] σ
set_option maxRecDepth 20000 in
theorem f_L_552_eq (L : Nat) (xs : Nat → Int32) (d : Nat) (x3 : Int32) (σ : Sg) : f_L_552 L xs d x3 σ =
bnd (x3 + 1) L (
bnd (x3 + 2) L (
bnd (x3 + 3) L (
bnd (x3 + 4) L (
bnd (x3 + 5) L (
cJ (f_N_words d (xs (ix (x3 + 1))) (xs (ix (x3 + 2))) (xs (ix (x3 + 3))) (xs (ix (x3 + 4))) (xs (ix (x3 + 5))) σ) fun v2 σ1 =>
bnd (x3 + 1) L (
bnd (x3 + 2) L (
bnd (x3 + 3) L (
bnd (x3 + 4) L (
bnd (x3 + 5) L (
cJ (f_M_words d (xs (ix (x3 + 1))) (xs (ix (x3 + 2))) (xs (ix (x3 + 3))) (xs (ix (x3 + 4))) (xs (ix (x3 + 5))) σ1) fun v4 σ3 =>
if (lg_cmp v2 v4) = 0 then (
f_L_18 L xs d (x3 + 6) σ3)
else (
rZ 0 σ3))))))))))) :=
  evAt_un [18, 172, 225, 288, 311, 334, 357, 400, 443, 466, 529, 552, 616, 659, 692, 715, 738, 761, 804, 837, 860, 873, 906, 929, 962, 995, 1028, 1051, 1074, 1087, 1100, 1123] 60 (jmp cd_L 552) [.ref 0, .ref 4, .ref 102, .int x3] [] σ
set_option maxRecDepth 20000 in
theorem f_L_616_eq (L : Nat) (xs : Nat → Int32) (d : Nat) (x3 : Int32) (σ : Sg) : f_L_616 L xs d x3 σ =
bnd (x3 + 1) L (
bnd (x3 + 2) L (
bnd (x3 + 3) L (
cI (f_N_allRules d (xs (ix (x3 + 1))) (xs (ix (x3 + 2))) (xs (ix (x3 + 3))) σ) fun v2 σ1 =>
bnd (x3 + 1) L (
bnd (x3 + 2) L (
bnd (x3 + 3) L (
cI (f_M_allRules d (xs (ix (x3 + 1))) (xs (ix (x3 + 2))) (xs (ix (x3 + 3))) σ1) fun v4 σ3 =>
if v2 = v4 then (
f_L_18 L xs d (x3 + 6) σ3)
else (
rZ 0 σ3))))))) :=
  evAt_un [18, 172, 225, 288, 311, 334, 357, 400, 443, 466, 529, 552, 616, 659, 692, 715, 738, 761, 804, 837, 860, 873, 906, 929, 962, 995, 1028, 1051, 1074, 1087, 1100, 1123] 39 (jmp cd_L 616) [.ref 0, .ref 4, .ref 102, .int x3] [] σ
set_option maxRecDepth 20000 in
theorem f_L_659_eq (L : Nat) (xs : Nat → Int32) (d : Nat) (x3 : Int32) (σ : Sg) : f_L_659 L xs d x3 σ =
bnd (x3 + 1) L (
bnd (x3 + 2) L (
cI (f_N_personIs d (xs (ix (x3 + 1))) (xs (ix (x3 + 2))) σ) fun v2 σ1 =>
bnd (x3 + 1) L (
bnd (x3 + 2) L (
cI (f_M_personIs d (xs (ix (x3 + 1))) (xs (ix (x3 + 2))) σ1) fun v4 σ3 =>
if v2 = v4 then (
f_L_18 L xs d (x3 + 6) σ3)
else (
rZ 0 σ3))))) :=
  evAt_un [18, 172, 225, 288, 311, 334, 357, 400, 443, 466, 529, 552, 616, 659, 692, 715, 738, 761, 804, 837, 860, 873, 906, 929, 962, 995, 1028, 1051, 1074, 1087, 1100, 1123] 29 (jmp cd_L 659) [.ref 0, .ref 4, .ref 102, .int x3] [] σ
set_option maxRecDepth 20000 in
theorem f_L_692_eq (L : Nat) (xs : Nat → Int32) (d : Nat) (x3 : Int32) (σ : Sg) : f_L_692 L xs d x3 σ =
bnd (x3 + 1) L (
cI (f_N_houses d (xs (ix (x3 + 1))) σ) fun v2 σ1 =>
bnd (x3 + 1) L (
cI (f_M_houses d (xs (ix (x3 + 1))) σ1) fun v4 σ3 =>
if v2 = v4 then (
f_L_18 L xs d (x3 + 6) σ3)
else (
rZ 0 σ3))) :=
  evAt_un [18, 172, 225, 288, 311, 334, 357, 400, 443, 466, 529, 552, 616, 659, 692, 715, 738, 761, 804, 837, 860, 873, 906, 929, 962, 995, 1028, 1051, 1074, 1087, 1100, 1123] 19 (jmp cd_L 692) [.ref 0, .ref 4, .ref 102, .int x3] [] σ
set_option maxRecDepth 20000 in
theorem f_L_715_eq (L : Nat) (xs : Nat → Int32) (d : Nat) (x3 : Int32) (σ : Sg) : f_L_715 L xs d x3 σ =
bnd (x3 + 1) L (
cI (f_N_mended d (xs (ix (x3 + 1))) σ) fun v2 σ1 =>
bnd (x3 + 1) L (
cI (f_M_mended d (xs (ix (x3 + 1))) σ1) fun v4 σ3 =>
if v2 = v4 then (
f_L_18 L xs d (x3 + 6) σ3)
else (
rZ 0 σ3))) :=
  evAt_un [18, 172, 225, 288, 311, 334, 357, 400, 443, 466, 529, 552, 616, 659, 692, 715, 738, 761, 804, 837, 860, 873, 906, 929, 962, 995, 1028, 1051, 1074, 1087, 1100, 1123] 19 (jmp cd_L 715) [.ref 0, .ref 4, .ref 102, .int x3] [] σ
set_option maxRecDepth 20000 in
theorem f_L_738_eq (L : Nat) (xs : Nat → Int32) (d : Nat) (x3 : Int32) (σ : Sg) : f_L_738 L xs d x3 σ =
bnd (x3 + 1) L (
cI (f_N_byTold d (xs (ix (x3 + 1))) σ) fun v2 σ1 =>
bnd (x3 + 1) L (
cI (f_M_byTold d (xs (ix (x3 + 1))) σ1) fun v4 σ3 =>
if v2 = v4 then (
f_L_18 L xs d (x3 + 6) σ3)
else (
rZ 0 σ3))) :=
  evAt_un [18, 172, 225, 288, 311, 334, 357, 400, 443, 466, 529, 552, 616, 659, 692, 715, 738, 761, 804, 837, 860, 873, 906, 929, 962, 995, 1028, 1051, 1074, 1087, 1100, 1123] 19 (jmp cd_L 738) [.ref 0, .ref 4, .ref 102, .int x3] [] σ
set_option maxRecDepth 20000 in
theorem f_L_761_eq (L : Nat) (xs : Nat → Int32) (d : Nat) (x3 : Int32) (σ : Sg) : f_L_761 L xs d x3 σ =
bnd (x3 + 1) L (
bnd (x3 + 2) L (
bnd (x3 + 3) L (
cI (f_N_whatIs d (xs (ix (x3 + 1))) (xs (ix (x3 + 2))) (xs (ix (x3 + 3))) σ) fun v2 σ1 =>
bnd (x3 + 1) L (
bnd (x3 + 2) L (
bnd (x3 + 3) L (
cI (f_M_whatIs d (xs (ix (x3 + 1))) (xs (ix (x3 + 2))) (xs (ix (x3 + 3))) σ1) fun v4 σ3 =>
if v2 = v4 then (
f_L_18 L xs d (x3 + 6) σ3)
else (
rZ 0 σ3))))))) :=
  evAt_un [18, 172, 225, 288, 311, 334, 357, 400, 443, 466, 529, 552, 616, 659, 692, 715, 738, 761, 804, 837, 860, 873, 906, 929, 962, 995, 1028, 1051, 1074, 1087, 1100, 1123] 39 (jmp cd_L 761) [.ref 0, .ref 4, .ref 102, .int x3] [] σ
set_option maxRecDepth 20000 in
theorem f_L_804_eq (L : Nat) (xs : Nat → Int32) (d : Nat) (x3 : Int32) (σ : Sg) : f_L_804 L xs d x3 σ =
bnd (x3 + 1) L (
bnd (x3 + 2) L (
cI (f_N_those d (xs (ix (x3 + 1))) (xs (ix (x3 + 2))) σ) fun v2 σ1 =>
bnd (x3 + 1) L (
bnd (x3 + 2) L (
cI (f_M_those d (xs (ix (x3 + 1))) (xs (ix (x3 + 2))) σ1) fun v4 σ3 =>
if v2 = v4 then (
f_L_18 L xs d (x3 + 6) σ3)
else (
rZ 0 σ3))))) :=
  evAt_un [18, 172, 225, 288, 311, 334, 357, 400, 443, 466, 529, 552, 616, 659, 692, 715, 738, 761, 804, 837, 860, 873, 906, 929, 962, 995, 1028, 1051, 1074, 1087, 1100, 1123] 29 (jmp cd_L 804) [.ref 0, .ref 4, .ref 102, .int x3] [] σ
set_option maxRecDepth 20000 in
theorem f_L_837_eq (L : Nat) (xs : Nat → Int32) (d : Nat) (x3 : Int32) (σ : Sg) : f_L_837 L xs d x3 σ =
bnd (x3 + 1) L (
cI (f_N_mayWed d (xs (ix (x3 + 1))) σ) fun v2 σ1 =>
bnd (x3 + 1) L (
cI (f_M_mayWed d (xs (ix (x3 + 1))) σ1) fun v4 σ3 =>
if v2 = v4 then (
f_L_18 L xs d (x3 + 6) σ3)
else (
rZ 0 σ3))) :=
  evAt_un [18, 172, 225, 288, 311, 334, 357, 400, 443, 466, 529, 552, 616, 659, 692, 715, 738, 761, 804, 837, 860, 873, 906, 929, 962, 995, 1028, 1051, 1074, 1087, 1100, 1123] 19 (jmp cd_L 837) [.ref 0, .ref 4, .ref 102, .int x3] [] σ
set_option maxRecDepth 20000 in
theorem f_L_860_eq (L : Nat) (xs : Nat → Int32) (d : Nat) (x3 : Int32) (σ : Sg) : f_L_860 L xs d x3 σ =
cI (f_N_weddings d σ) fun v2 σ1 =>
cI (f_M_weddings d σ1) fun v4 σ3 =>
if v2 = v4 then (
f_L_18 L xs d (x3 + 6) σ3)
else (
rZ 0 σ3) :=
  evAt_un [18, 172, 225, 288, 311, 334, 357, 400, 443, 466, 529, 552, 616, 659, 692, 715, 738, 761, 804, 837, 860, 873, 906, 929, 962, 995, 1028, 1051, 1074, 1087, 1100, 1123] 9 (jmp cd_L 860) [.ref 0, .ref 4, .ref 102, .int x3] [] σ
set_option maxRecDepth 20000 in
theorem f_L_873_eq (L : Nat) (xs : Nat → Int32) (d : Nat) (x3 : Int32) (σ : Sg) : f_L_873 L xs d x3 σ =
bnd (x3 + 1) L (
bnd (x3 + 2) L (
cI (f_N_line d (xs (ix (x3 + 1))) (xs (ix (x3 + 2))) σ) fun v2 σ1 =>
bnd (x3 + 1) L (
bnd (x3 + 2) L (
cI (f_M_line d (xs (ix (x3 + 1))) (xs (ix (x3 + 2))) σ1) fun v4 σ3 =>
if v2 = v4 then (
f_L_18 L xs d (x3 + 6) σ3)
else (
rZ 0 σ3))))) :=
  evAt_un [18, 172, 225, 288, 311, 334, 357, 400, 443, 466, 529, 552, 616, 659, 692, 715, 738, 761, 804, 837, 860, 873, 906, 929, 962, 995, 1028, 1051, 1074, 1087, 1100, 1123] 29 (jmp cd_L 873) [.ref 0, .ref 4, .ref 102, .int x3] [] σ
set_option maxRecDepth 20000 in
theorem f_L_906_eq (L : Nat) (xs : Nat → Int32) (d : Nat) (x3 : Int32) (σ : Sg) : f_L_906 L xs d x3 σ =
bnd (x3 + 1) L (
cI (f_N_years d (xs (ix (x3 + 1))) σ) fun v2 σ1 =>
bnd (x3 + 1) L (
cI (f_M_years d (xs (ix (x3 + 1))) σ1) fun v4 σ3 =>
if v2 = v4 then (
f_L_18 L xs d (x3 + 6) σ3)
else (
rZ 0 σ3))) :=
  evAt_un [18, 172, 225, 288, 311, 334, 357, 400, 443, 466, 529, 552, 616, 659, 692, 715, 738, 761, 804, 837, 860, 873, 906, 929, 962, 995, 1028, 1051, 1074, 1087, 1100, 1123] 19 (jmp cd_L 906) [.ref 0, .ref 4, .ref 102, .int x3] [] σ
set_option maxRecDepth 20000 in
theorem f_L_929_eq (L : Nat) (xs : Nat → Int32) (d : Nat) (x3 : Int32) (σ : Sg) : f_L_929 L xs d x3 σ =
bnd (x3 + 1) L (
bnd (x3 + 2) L (
cI (f_N_tried d (xs (ix (x3 + 1))) (xs (ix (x3 + 2))) σ) fun v2 σ1 =>
bnd (x3 + 1) L (
bnd (x3 + 2) L (
cI (f_M_tried d (xs (ix (x3 + 1))) (xs (ix (x3 + 2))) σ1) fun v4 σ3 =>
if v2 = v4 then (
f_L_18 L xs d (x3 + 6) σ3)
else (
rZ 0 σ3))))) :=
  evAt_un [18, 172, 225, 288, 311, 334, 357, 400, 443, 466, 529, 552, 616, 659, 692, 715, 738, 761, 804, 837, 860, 873, 906, 929, 962, 995, 1028, 1051, 1074, 1087, 1100, 1123] 29 (jmp cd_L 929) [.ref 0, .ref 4, .ref 102, .int x3] [] σ
set_option maxRecDepth 20000 in
theorem f_L_962_eq (L : Nat) (xs : Nat → Int32) (d : Nat) (x3 : Int32) (σ : Sg) : f_L_962 L xs d x3 σ =
bnd (x3 + 1) L (
bnd (x3 + 2) L (
cI (f_N_nameIs d (xs (ix (x3 + 1))) (xs (ix (x3 + 2))) σ) fun v2 σ1 =>
bnd (x3 + 1) L (
bnd (x3 + 2) L (
cI (f_M_nameIs d (xs (ix (x3 + 1))) (xs (ix (x3 + 2))) σ1) fun v4 σ3 =>
if v2 = v4 then (
f_L_18 L xs d (x3 + 6) σ3)
else (
rZ 0 σ3))))) :=
  evAt_un [18, 172, 225, 288, 311, 334, 357, 400, 443, 466, 529, 552, 616, 659, 692, 715, 738, 761, 804, 837, 860, 873, 906, 929, 962, 995, 1028, 1051, 1074, 1087, 1100, 1123] 29 (jmp cd_L 962) [.ref 0, .ref 4, .ref 102, .int x3] [] σ
set_option maxRecDepth 20000 in
theorem f_L_995_eq (L : Nat) (xs : Nat → Int32) (d : Nat) (x3 : Int32) (σ : Sg) : f_L_995 L xs d x3 σ =
bnd (x3 + 1) L (
bnd (x3 + 2) L (
cI (f_N_diesOut d (xs (ix (x3 + 1))) (xs (ix (x3 + 2))) σ) fun v2 σ1 =>
bnd (x3 + 1) L (
bnd (x3 + 2) L (
cI (f_M_diesOut d (xs (ix (x3 + 1))) (xs (ix (x3 + 2))) σ1) fun v4 σ3 =>
if v2 = v4 then (
f_L_18 L xs d (x3 + 6) σ3)
else (
rZ 0 σ3))))) :=
  evAt_un [18, 172, 225, 288, 311, 334, 357, 400, 443, 466, 529, 552, 616, 659, 692, 715, 738, 761, 804, 837, 860, 873, 906, 929, 962, 995, 1028, 1051, 1074, 1087, 1100, 1123] 29 (jmp cd_L 995) [.ref 0, .ref 4, .ref 102, .int x3] [] σ
set_option maxRecDepth 20000 in
theorem f_L_1028_eq (L : Nat) (xs : Nat → Int32) (d : Nat) (x3 : Int32) (σ : Sg) : f_L_1028 L xs d x3 σ =
bnd (x3 + 1) L (
cI (f_N_left d (xs (ix (x3 + 1))) σ) fun v2 σ1 =>
bnd (x3 + 1) L (
cI (f_M_left d (xs (ix (x3 + 1))) σ1) fun v4 σ3 =>
if v2 = v4 then (
f_L_18 L xs d (x3 + 6) σ3)
else (
rZ 0 σ3))) :=
  evAt_un [18, 172, 225, 288, 311, 334, 357, 400, 443, 466, 529, 552, 616, 659, 692, 715, 738, 761, 804, 837, 860, 873, 906, 929, 962, 995, 1028, 1051, 1074, 1087, 1100, 1123] 19 (jmp cd_L 1028) [.ref 0, .ref 4, .ref 102, .int x3] [] σ
set_option maxRecDepth 20000 in
theorem f_L_1051_eq (L : Nat) (xs : Nat → Int32) (d : Nat) (x3 : Int32) (σ : Sg) : f_L_1051 L xs d x3 σ =
bnd (x3 + 1) L (
cI (f_N_seed d (xs (ix (x3 + 1))) σ) fun v2 σ1 =>
bnd (x3 + 1) L (
cI (f_M_seed d (xs (ix (x3 + 1))) σ1) fun v4 σ3 =>
if v2 = v4 then (
f_L_18 L xs d (x3 + 6) σ3)
else (
rZ 0 σ3))) :=
  evAt_un [18, 172, 225, 288, 311, 334, 357, 400, 443, 466, 529, 552, 616, 659, 692, 715, 738, 761, 804, 837, 860, 873, 906, 929, 962, 995, 1028, 1051, 1074, 1087, 1100, 1123] 19 (jmp cd_L 1051) [.ref 0, .ref 4, .ref 102, .int x3] [] σ
set_option maxRecDepth 20000 in
theorem f_L_1074_eq (L : Nat) (xs : Nat → Int32) (d : Nat) (x3 : Int32) (σ : Sg) : f_L_1074 L xs d x3 σ =
cI (f_N_keep d σ) fun v2 σ1 =>
cI (f_M_keep d σ1) fun v4 σ3 =>
if v2 = v4 then (
f_L_18 L xs d (x3 + 6) σ3)
else (
rZ 0 σ3) :=
  evAt_un [18, 172, 225, 288, 311, 334, 357, 400, 443, 466, 529, 552, 616, 659, 692, 715, 738, 761, 804, 837, 860, 873, 906, 929, 962, 995, 1028, 1051, 1074, 1087, 1100, 1123] 9 (jmp cd_L 1074) [.ref 0, .ref 4, .ref 102, .int x3] [] σ
set_option maxRecDepth 20000 in
theorem f_L_1087_eq (L : Nat) (xs : Nat → Int32) (d : Nat) (x3 : Int32) (σ : Sg) : f_L_1087 L xs d x3 σ =
cI (f_N_undo d σ) fun v2 σ1 =>
cI (f_M_undo d σ1) fun v4 σ3 =>
if v2 = v4 then (
f_L_18 L xs d (x3 + 6) σ3)
else (
rZ 0 σ3) :=
  evAt_un [18, 172, 225, 288, 311, 334, 357, 400, 443, 466, 529, 552, 616, 659, 692, 715, 738, 761, 804, 837, 860, 873, 906, 929, 962, 995, 1028, 1051, 1074, 1087, 1100, 1123] 9 (jmp cd_L 1087) [.ref 0, .ref 4, .ref 102, .int x3] [] σ
set_option maxRecDepth 20000 in
theorem f_L_1100_eq (L : Nat) (xs : Nat → Int32) (d : Nat) (x3 : Int32) (σ : Sg) : f_L_1100 L xs d x3 σ =
bnd (x3 + 1) L (
cI (f_N_check d (xs (ix (x3 + 1))) σ) fun v2 σ1 =>
bnd (x3 + 1) L (
cI (f_M_check d (xs (ix (x3 + 1))) σ1) fun v4 σ3 =>
if v2 = v4 then (
f_L_18 L xs d (x3 + 6) σ3)
else (
rZ 0 σ3))) :=
  evAt_un [18, 172, 225, 288, 311, 334, 357, 400, 443, 466, 529, 552, 616, 659, 692, 715, 738, 761, 804, 837, 860, 873, 906, 929, 962, 995, 1028, 1051, 1074, 1087, 1100, 1123] 19 (jmp cd_L 1100) [.ref 0, .ref 4, .ref 102, .int x3] [] σ
set_option maxRecDepth 20000 in
theorem f_L_1123_eq (L : Nat) (xs : Nat → Int32) (d : Nat) (x3 : Int32) (σ : Sg) : f_L_1123 L xs d x3 σ =
bnd (x3 + 1) L (
cI (f_N_count d (xs (ix (x3 + 1))) σ) fun v2 σ1 =>
bnd (x3 + 1) L (
cI (f_M_count d (xs (ix (x3 + 1))) σ1) fun v4 σ3 =>
if v2 = v4 then (
f_L_18 L xs d (x3 + 6) σ3)
else (
rZ 0 σ3))) :=
  evAt_un [18, 172, 225, 288, 311, 334, 357, 400, 443, 466, 529, 552, 616, 659, 692, 715, 738, 761, 804, 837, 860, 873, 906, 929, 962, 995, 1028, 1051, 1074, 1087, 1100, 1123] 19 (jmp cd_L 1123) [.ref 0, .ref 4, .ref 102, .int x3] [] σ
