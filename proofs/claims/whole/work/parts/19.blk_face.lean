/-! blocks of methods, and that they are what stands in the class file: printed by program -/
-- NeverTogether.late(I)I
def tb_125 : List zz_B := [[(1, zi_aload 0), (3, zi_getR 7 0), (1, zi_iload 1), (3, zi_callV 6 11 2 1)],
  [(3, zi_zne 2), (1, zi_push (.int (-1))), (1, zi_iret)],
  [(1, zi_aload 0), (3, zi_getR 7 3), (3, zi_getI 2 10), (3, zi_zne 3), (2, zi_push (.int (-4))), (1, zi_iret)],
  [(1, zi_aload 0), (3, zi_getR 7 0), (1, zi_iload 1), (3, zi_callV 6 12 2 4)],
  [(3, zi_zne 6), (1, zi_aload 0), (1, zi_push (.int 1)), (3, zi_callV 7 141 2 5)],
  [(1, zi_iret)],
  [(1, zi_aload 0), (3, zi_getR 7 0), (1, zi_iload 1), (3, zi_callV 6 15 2 7)],
  [(1, zi_aload 0), (3, zi_getR 7 3), (3, zi_getI 2 10), (3, zi_ceq 9), (1, zi_aload 0), (1, zi_push (.int 5)), (3, zi_callV 7 141 2 8)],
  [(1, zi_iret)],
  [(1, zi_push (.int 0)), (1, zi_istore 2), (0, zi_jump 10)],
  [(1, zi_iload 2), (1, zi_aload 0), (3, zi_getR 7 3), (3, zi_getI 2 10), (3, zi_cge 15), (1, zi_aload 0), (3, zi_getR 7 0), (1, zi_iload 1), (1, zi_iload 2), (3, zi_callV 6 16 3 11)],
  [(3, zi_callS 150 1 12)],
  [(3, zi_zne 14), (1, zi_aload 0), (1, zi_push (.int 3)), (3, zi_callV 7 141 2 13)],
  [(1, zi_iret)],
  [(3, zi_iinc 2 1), (3, zi_jump 10)],
  [(1, zi_aload 0), (1, zi_iload 1), (3, zi_callV 7 146 2 16)],
  [(1, zi_iret)]]
def pc_125 : List Nat := [0, 8, 13, 26, 34, 42, 43, 51, 66, 67, 69, 89, 92, 100, 101, 107, 112]
set_option maxRecDepth 20000 in
theorem sa_125 : zz_SA zz_mt RX7 yX7_late cX7_late (some .int) 3 pc_125 pc_125 tb_125 := ⟨⟨⟨zs_aload_n (k := 0) rfl (by decide +kernel), zg_aload _⟩, ⟨zs_getR (ci := 7) (k := 0) (C := RX7) (T := TX7) (N := 11) rfl (by decide) rfl wd_281 (by decide +kernel), zg_getR _ _⟩, ⟨zs_iload_n (k := 1) rfl (by decide +kernel), zg_iload _⟩, ⟨zs_callV (ci := 6) (C := RX6) (T := TX6) (N := 2) (n := 1) rfl mk_11 rfl ⟨rfl, rfl⟩ ck_11 wd_319 wd_320 wd_321 rfl (by decide +kernel), zg_callV _ _ _ _⟩, trivial⟩,
  ⟨⟨zs_zne (off := 5) (q := 13) (by decide +kernel) rfl (by decide), zg_zne _⟩, ⟨zs_iconst (n := (-1)) (by decide +kernel) (by decide), zg_push _⟩, ⟨zs_iret (by decide +kernel) rfl, zg_iret⟩, trivial⟩,
  ⟨⟨zs_aload_n (k := 0) rfl (by decide +kernel), zg_aload _⟩, ⟨zs_getR (ci := 7) (k := 3) (C := RX7) (T := TX7) (N := 11) rfl (by decide) rfl wd_284 (by decide +kernel), zg_getR _ _⟩, ⟨zs_getIN (ci := 2) (k := 10) (C := RX2) (T := TX2) (N := 14) rfl (by decide) (Or.inl rfl) wn_164 (by decide +kernel), zg_getI _ _⟩, ⟨zs_zne (off := 6) (q := 26) (by decide +kernel) rfl (by decide), zg_zne _⟩, ⟨zs_bipush (n := (-4)) (by decide +kernel) (by decide), zg_push _⟩, ⟨zs_iret (by decide +kernel) rfl, zg_iret⟩, trivial⟩,
  ⟨⟨zs_aload_n (k := 0) rfl (by decide +kernel), zg_aload _⟩, ⟨zs_getR (ci := 7) (k := 0) (C := RX7) (T := TX7) (N := 11) rfl (by decide) rfl wd_281 (by decide +kernel), zg_getR _ _⟩, ⟨zs_iload_n (k := 1) rfl (by decide +kernel), zg_iload _⟩, ⟨zs_callV (ci := 6) (C := RX6) (T := TX6) (N := 2) (n := 1) rfl mk_12 rfl ⟨rfl, rfl⟩ ck_12 wd_344 wd_345 wd_346 rfl (by decide +kernel), zg_callV _ _ _ _⟩, trivial⟩,
  ⟨⟨zs_zne (off := 9) (q := 43) (by decide +kernel) rfl (by decide), zg_zne _⟩, ⟨zs_aload_n (k := 0) rfl (by decide +kernel), zg_aload _⟩, ⟨zs_iconst (n := 1) (by decide +kernel) (by decide), zg_push _⟩, ⟨zs_callV (ci := 7) (C := RX7) (T := TX7) (N := 11) (n := 1) rfl mk_141 rfl ⟨rfl, rfl⟩ ck_141 wd_323 wd_325 wd_0 rfl (by decide +kernel), zg_callV _ _ _ _⟩, trivial⟩,
  ⟨⟨zs_iret (by decide +kernel) rfl, zg_iret⟩, trivial⟩,
  ⟨⟨zs_aload_n (k := 0) rfl (by decide +kernel), zg_aload _⟩, ⟨zs_getR (ci := 7) (k := 0) (C := RX7) (T := TX7) (N := 11) rfl (by decide) rfl wd_281 (by decide +kernel), zg_getR _ _⟩, ⟨zs_iload_n (k := 1) rfl (by decide +kernel), zg_iload _⟩, ⟨zs_callV (ci := 6) (C := RX6) (T := TX6) (N := 2) (n := 1) rfl mk_15 rfl ⟨rfl, rfl⟩ ck_15 wd_394 wd_395 wd_396 rfl (by decide +kernel), zg_callV _ _ _ _⟩, trivial⟩,
  ⟨⟨zs_aload_n (k := 0) rfl (by decide +kernel), zg_aload _⟩, ⟨zs_getR (ci := 7) (k := 3) (C := RX7) (T := TX7) (N := 11) rfl (by decide) rfl wd_284 (by decide +kernel), zg_getR _ _⟩, ⟨zs_getIN (ci := 2) (k := 10) (C := RX2) (T := TX2) (N := 14) rfl (by decide) (Or.inl rfl) wn_164 (by decide +kernel), zg_getI _ _⟩, ⟨zs_ceq (off := 9) (q := 67) (by decide +kernel) rfl (by decide), zg_ceq _⟩, ⟨zs_aload_n (k := 0) rfl (by decide +kernel), zg_aload _⟩, ⟨zs_iconst (n := 5) (by decide +kernel) (by decide), zg_push _⟩, ⟨zs_callV (ci := 7) (C := RX7) (T := TX7) (N := 11) (n := 1) rfl mk_141 rfl ⟨rfl, rfl⟩ ck_141 wd_323 wd_325 wd_0 rfl (by decide +kernel), zg_callV _ _ _ _⟩, trivial⟩,
  ⟨⟨zs_iret (by decide +kernel) rfl, zg_iret⟩, trivial⟩,
  ⟨⟨zs_iconst (n := 0) (by decide +kernel) (by decide), zg_push _⟩, ⟨zs_istore_n (k := 2) rfl (by decide +kernel), zg_istore _⟩, ⟨zs_jump rfl, zg_jump _⟩, trivial⟩,
  ⟨⟨zs_iload_n (k := 2) rfl (by decide +kernel), zg_iload _⟩, ⟨zs_aload_n (k := 0) rfl (by decide +kernel), zg_aload _⟩, ⟨zs_getR (ci := 7) (k := 3) (C := RX7) (T := TX7) (N := 11) rfl (by decide) rfl wd_284 (by decide +kernel), zg_getR _ _⟩, ⟨zs_getIN (ci := 2) (k := 10) (C := RX2) (T := TX2) (N := 14) rfl (by decide) (Or.inl rfl) wn_164 (by decide +kernel), zg_getI _ _⟩, ⟨zs_cge (off := 30) (q := 107) (by decide +kernel) rfl (by decide), zg_cge _⟩, ⟨zs_aload_n (k := 0) rfl (by decide +kernel), zg_aload _⟩, ⟨zs_getR (ci := 7) (k := 0) (C := RX7) (T := TX7) (N := 11) rfl (by decide) rfl wd_281 (by decide +kernel), zg_getR _ _⟩, ⟨zs_iload_n (k := 1) rfl (by decide +kernel), zg_iload _⟩, ⟨zs_iload_n (k := 2) rfl (by decide +kernel), zg_iload _⟩, ⟨zs_callV (ci := 6) (C := RX6) (T := TX6) (N := 2) (n := 2) rfl mk_16 rfl ⟨rfl, rfl⟩ ck_16 wd_361 wd_362 wd_363 rfl (by decide +kernel), zg_callV _ _ _ _⟩, trivial⟩,
  ⟨⟨zs_callS (n := 1) mk_150 ⟨rfl, rfl⟩ ck_150 wd_716 wd_717 wd_69 rfl (by decide +kernel), zg_callS _ _ _⟩, trivial⟩,
  ⟨⟨zs_zne (off := 9) (q := 101) (by decide +kernel) rfl (by decide), zg_zne _⟩, ⟨zs_aload_n (k := 0) rfl (by decide +kernel), zg_aload _⟩, ⟨zs_iconst (n := 3) (by decide +kernel) (by decide), zg_push _⟩, ⟨zs_callV (ci := 7) (C := RX7) (T := TX7) (N := 11) (n := 1) rfl mk_141 rfl ⟨rfl, rfl⟩ ck_141 wd_323 wd_325 wd_0 rfl (by decide +kernel), zg_callV _ _ _ _⟩, trivial⟩,
  ⟨⟨zs_iret (by decide +kernel) rfl, zg_iret⟩, trivial⟩,
  ⟨⟨zs_iinc (n := 1) (by decide +kernel) (by decide), zg_iinc _ _⟩, ⟨zs_goto (off := (-35)) (q := 69) (by decide +kernel) rfl (by decide), zg_jump _⟩, trivial⟩,
  ⟨⟨zs_aload_n (k := 0) rfl (by decide +kernel), zg_aload _⟩, ⟨zs_iload_n (k := 1) rfl (by decide +kernel), zg_iload _⟩, ⟨zs_callV (ci := 7) (C := RX7) (T := TX7) (N := 11) (n := 1) rfl mk_146 rfl ⟨rfl, rfl⟩ ck_146 wd_819 wd_821 wd_18 rfl (by decide +kernel), zg_callV _ _ _ _⟩, trivial⟩,
  ⟨⟨zs_iret (by decide +kernel) rfl, zg_iret⟩, trivial⟩, trivial⟩
-- NeverTogether.rates(II)I
def tb_126 : List zz_B := [[(1, zi_aload 0), (1, zi_iload 1), (1, zi_iload 2), (3, zi_callV 7 144 3 1)],
  [(1, zi_istore 3), (1, zi_iload 3), (3, zi_zeq 2), (1, zi_iload 3), (1, zi_iret)],
  [(1, zi_push (.int 0)), (2, zi_istore 4), (1, zi_push (.int 0)), (2, zi_istore 5), (0, zi_jump 3)],
  [(2, zi_iload 5), (2, zi_push (.int 10)), (3, zi_cge 8), (1, zi_aload 0), (1, zi_iload 2), (1, zi_aload 0), (3, zi_getR 7 3), (1, zi_iload 1), (1, zi_push (.int 0)), (1, zi_push (.int 0)), (3, zi_callV 2 44 4 4)],
  [(1, zi_aload 0), (3, zi_getR 7 3), (1, zi_iload 1), (3, zi_callV 2 34 2 5)],
  [(2, zi_iload 5), (1, zi_push (.int 4)), (1, zi_ibin (fun x y => x - y)), (3, zi_callV 7 145 5 6)],
  [(3, zi_zeq 7), (2, zi_iload 4), (1, zi_push (.int 1)), (2, zi_iload 5), (1, zi_ibin (fun x y => x <<< (y &&& 31))), (1, zi_ibin (fun x y => x ||| y)), (2, zi_istore 4), (0, zi_jump 7)],
  [(3, zi_iinc 5 1), (3, zi_jump 3)],
  [(2, zi_iload 4), (1, zi_iret)]]
def pc_126 : List Nat := [0, 6, 13, 19, 38, 46, 53, 65, 71]
set_option maxRecDepth 20000 in
theorem sa_126 : zz_SA zz_mt RX7 yX7_rates cX7_rates (some .int) 6 pc_126 pc_126 tb_126 := ⟨⟨⟨zs_aload_n (k := 0) rfl (by decide +kernel), zg_aload _⟩, ⟨zs_iload_n (k := 1) rfl (by decide +kernel), zg_iload _⟩, ⟨zs_iload_n (k := 2) rfl (by decide +kernel), zg_iload _⟩, ⟨zs_callV (ci := 7) (C := RX7) (T := TX7) (N := 11) (n := 2) rfl mk_144 rfl ⟨rfl, rfl⟩ ck_144 wd_828 wd_830 wd_19 rfl (by decide +kernel), zg_callV _ _ _ _⟩, trivial⟩,
  ⟨⟨zs_istore_n (k := 3) rfl (by decide +kernel), zg_istore _⟩, ⟨zs_iload_n (k := 3) rfl (by decide +kernel), zg_iload _⟩, ⟨zs_zeq (off := 5) (q := 13) (by decide +kernel) rfl (by decide), zg_zeq _⟩, ⟨zs_iload_n (k := 3) rfl (by decide +kernel), zg_iload _⟩, ⟨zs_iret (by decide +kernel) rfl, zg_iret⟩, trivial⟩,
  ⟨⟨zs_iconst (n := 0) (by decide +kernel) (by decide), zg_push _⟩, ⟨zs_istore (by decide +kernel), zg_istore _⟩, ⟨zs_iconst (n := 0) (by decide +kernel) (by decide), zg_push _⟩, ⟨zs_istore (by decide +kernel), zg_istore _⟩, ⟨zs_jump rfl, zg_jump _⟩, trivial⟩,
  ⟨⟨zs_iload (by decide +kernel), zg_iload _⟩, ⟨zs_bipush (n := 10) (by decide +kernel) (by decide), zg_push _⟩, ⟨zs_cge (off := 48) (q := 71) (by decide +kernel) rfl (by decide), zg_cge _⟩, ⟨zs_aload_n (k := 0) rfl (by decide +kernel), zg_aload _⟩, ⟨zs_iload_n (k := 2) rfl (by decide +kernel), zg_iload _⟩, ⟨zs_aload_n (k := 0) rfl (by decide +kernel), zg_aload _⟩, ⟨zs_getR (ci := 7) (k := 3) (C := RX7) (T := TX7) (N := 11) rfl (by decide) rfl wd_284 (by decide +kernel), zg_getR _ _⟩, ⟨zs_iload_n (k := 1) rfl (by decide +kernel), zg_iload _⟩, ⟨zs_iconst (n := 0) (by decide +kernel) (by decide), zg_push _⟩, ⟨zs_iconst (n := 0) (by decide +kernel) (by decide), zg_push _⟩, ⟨zs_callV (ci := 2) (C := RX2) (T := TX2) (N := 14) (n := 3) rfl mk_44 rfl ⟨rfl, rfl⟩ ck_44 wd_616 wd_473 wd_474 rfl (by decide +kernel), zg_callV _ _ _ _⟩, trivial⟩,
  ⟨⟨zs_aload_n (k := 0) rfl (by decide +kernel), zg_aload _⟩, ⟨zs_getR (ci := 7) (k := 3) (C := RX7) (T := TX7) (N := 11) rfl (by decide) rfl wd_284 (by decide +kernel), zg_getR _ _⟩, ⟨zs_iload_n (k := 1) rfl (by decide +kernel), zg_iload _⟩, ⟨zs_callV (ci := 2) (C := RX2) (T := TX2) (N := 14) (n := 1) rfl mk_34 rfl ⟨rfl, rfl⟩ ck_34 wd_832 wd_498 wd_499 rfl (by decide +kernel), zg_callV _ _ _ _⟩, trivial⟩,
  ⟨⟨zs_iload (by decide +kernel), zg_iload _⟩, ⟨zs_iconst (n := 4) (by decide +kernel) (by decide), zg_push _⟩, ⟨zs_isub (by decide +kernel), zg_ibin _⟩, ⟨zs_callV (ci := 7) (C := RX7) (T := TX7) (N := 11) (n := 4) rfl mk_145 rfl ⟨rfl, rfl⟩ ck_145 wd_833 wd_835 wd_20 rfl (by decide +kernel), zg_callV _ _ _ _⟩, trivial⟩,
  ⟨⟨zs_zeq (off := 12) (q := 65) (by decide +kernel) rfl (by decide), zg_zeq _⟩, ⟨zs_iload (by decide +kernel), zg_iload _⟩, ⟨zs_iconst (n := 1) (by decide +kernel) (by decide), zg_push _⟩, ⟨zs_iload (by decide +kernel), zg_iload _⟩, ⟨zs_ishl (by decide +kernel), zg_ibin _⟩, ⟨zs_ior (by decide +kernel), zg_ibin _⟩, ⟨zs_istore (by decide +kernel), zg_istore _⟩, ⟨zs_jump rfl, zg_jump _⟩, trivial⟩,
  ⟨⟨zs_iinc (n := 1) (by decide +kernel) (by decide), zg_iinc _ _⟩, ⟨zs_goto (off := (-49)) (q := 19) (by decide +kernel) rfl (by decide), zg_jump _⟩, trivial⟩,
  ⟨⟨zs_iload (by decide +kernel), zg_iload _⟩, ⟨zs_iret (by decide +kernel) rfl, zg_iret⟩, trivial⟩, trivial⟩
-- NeverTogether.kinds(II)I
def tb_127 : List zz_B := [[(1, zi_aload 0), (1, zi_iload 1), (1, zi_iload 2), (3, zi_callV 7 144 3 1)],
  [(1, zi_istore 3), (1, zi_iload 3), (3, zi_zeq 2), (1, zi_iload 3), (1, zi_iret)],
  [(1, zi_push (.int 0)), (2, zi_istore 4), (1, zi_push (.int 0)), (2, zi_istore 5), (0, zi_jump 3)],
  [(2, zi_iload 5), (2, zi_push (.int 6)), (3, zi_cge 8), (1, zi_aload 0), (1, zi_iload 2), (1, zi_aload 0), (3, zi_getR 7 3), (1, zi_iload 1), (1, zi_push (.int 0)), (1, zi_push (.int 0)), (3, zi_callV 2 44 4 4)],
  [(2, zi_iload 5), (1, zi_aload 0), (3, zi_getR 7 3), (1, zi_iload 1), (3, zi_callV 2 35 2 5)],
  [(3, zi_callV 7 145 5 6)],
  [(3, zi_zeq 7), (2, zi_iload 4), (1, zi_push (.int 1)), (2, zi_iload 5), (1, zi_ibin (fun x y => x <<< (y &&& 31))), (1, zi_ibin (fun x y => x ||| y)), (2, zi_istore 4), (0, zi_jump 7)],
  [(3, zi_iinc 5 1), (3, zi_jump 3)],
  [(2, zi_iload 4), (1, zi_iret)]]
def pc_127 : List Nat := [0, 6, 13, 19, 38, 48, 51, 63, 69]
set_option maxRecDepth 20000 in
theorem sa_127 : zz_SA zz_mt RX7 yX7_kinds cX7_kinds (some .int) 6 pc_127 pc_127 tb_127 := ⟨⟨⟨zs_aload_n (k := 0) rfl (by decide +kernel), zg_aload _⟩, ⟨zs_iload_n (k := 1) rfl (by decide +kernel), zg_iload _⟩, ⟨zs_iload_n (k := 2) rfl (by decide +kernel), zg_iload _⟩, ⟨zs_callV (ci := 7) (C := RX7) (T := TX7) (N := 11) (n := 2) rfl mk_144 rfl ⟨rfl, rfl⟩ ck_144 wd_828 wd_830 wd_19 rfl (by decide +kernel), zg_callV _ _ _ _⟩, trivial⟩,
  ⟨⟨zs_istore_n (k := 3) rfl (by decide +kernel), zg_istore _⟩, ⟨zs_iload_n (k := 3) rfl (by decide +kernel), zg_iload _⟩, ⟨zs_zeq (off := 5) (q := 13) (by decide +kernel) rfl (by decide), zg_zeq _⟩, ⟨zs_iload_n (k := 3) rfl (by decide +kernel), zg_iload _⟩, ⟨zs_iret (by decide +kernel) rfl, zg_iret⟩, trivial⟩,
  ⟨⟨zs_iconst (n := 0) (by decide +kernel) (by decide), zg_push _⟩, ⟨zs_istore (by decide +kernel), zg_istore _⟩, ⟨zs_iconst (n := 0) (by decide +kernel) (by decide), zg_push _⟩, ⟨zs_istore (by decide +kernel), zg_istore _⟩, ⟨zs_jump rfl, zg_jump _⟩, trivial⟩,
  ⟨⟨zs_iload (by decide +kernel), zg_iload _⟩, ⟨zs_bipush (n := 6) (by decide +kernel) (by decide), zg_push _⟩, ⟨zs_cge (off := 46) (q := 69) (by decide +kernel) rfl (by decide), zg_cge _⟩, ⟨zs_aload_n (k := 0) rfl (by decide +kernel), zg_aload _⟩, ⟨zs_iload_n (k := 2) rfl (by decide +kernel), zg_iload _⟩, ⟨zs_aload_n (k := 0) rfl (by decide +kernel), zg_aload _⟩, ⟨zs_getR (ci := 7) (k := 3) (C := RX7) (T := TX7) (N := 11) rfl (by decide) rfl wd_284 (by decide +kernel), zg_getR _ _⟩, ⟨zs_iload_n (k := 1) rfl (by decide +kernel), zg_iload _⟩, ⟨zs_iconst (n := 0) (by decide +kernel) (by decide), zg_push _⟩, ⟨zs_iconst (n := 0) (by decide +kernel) (by decide), zg_push _⟩, ⟨zs_callV (ci := 2) (C := RX2) (T := TX2) (N := 14) (n := 3) rfl mk_44 rfl ⟨rfl, rfl⟩ ck_44 wd_616 wd_473 wd_474 rfl (by decide +kernel), zg_callV _ _ _ _⟩, trivial⟩,
  ⟨⟨zs_iload (by decide +kernel), zg_iload _⟩, ⟨zs_aload_n (k := 0) rfl (by decide +kernel), zg_aload _⟩, ⟨zs_getR (ci := 7) (k := 3) (C := RX7) (T := TX7) (N := 11) rfl (by decide) rfl wd_284 (by decide +kernel), zg_getR _ _⟩, ⟨zs_iload_n (k := 1) rfl (by decide +kernel), zg_iload _⟩, ⟨zs_callV (ci := 2) (C := RX2) (T := TX2) (N := 14) (n := 1) rfl mk_35 rfl ⟨rfl, rfl⟩ ck_35 wd_842 wd_502 wd_503 rfl (by decide +kernel), zg_callV _ _ _ _⟩, trivial⟩,
  ⟨⟨zs_callV (ci := 7) (C := RX7) (T := TX7) (N := 11) (n := 4) rfl mk_145 rfl ⟨rfl, rfl⟩ ck_145 wd_833 wd_835 wd_20 rfl (by decide +kernel), zg_callV _ _ _ _⟩, trivial⟩,
  ⟨⟨zs_zeq (off := 12) (q := 63) (by decide +kernel) rfl (by decide), zg_zeq _⟩, ⟨zs_iload (by decide +kernel), zg_iload _⟩, ⟨zs_iconst (n := 1) (by decide +kernel) (by decide), zg_push _⟩, ⟨zs_iload (by decide +kernel), zg_iload _⟩, ⟨zs_ishl (by decide +kernel), zg_ibin _⟩, ⟨zs_ior (by decide +kernel), zg_ibin _⟩, ⟨zs_istore (by decide +kernel), zg_istore _⟩, ⟨zs_jump rfl, zg_jump _⟩, trivial⟩,
  ⟨⟨zs_iinc (n := 1) (by decide +kernel) (by decide), zg_iinc _ _⟩, ⟨zs_goto (off := (-47)) (q := 19) (by decide +kernel) rfl (by decide), zg_jump _⟩, trivial⟩,
  ⟨⟨zs_iload (by decide +kernel), zg_iload _⟩, ⟨zs_iret (by decide +kernel) rfl, zg_iret⟩, trivial⟩, trivial⟩
-- NeverTogether.from(II)I
def tb_128 : List zz_B := [[(1, zi_aload 0), (1, zi_iload 1), (1, zi_iload 2), (3, zi_callV 7 144 3 1)],
  [(1, zi_istore 3), (1, zi_iload 3), (3, zi_zeq 2), (1, zi_iload 3), (1, zi_iret)],
  [(2, zi_push (.int (-9))), (2, zi_istore 4), (1, zi_push (.int 0)), (2, zi_istore 5), (2, zi_push (.int 59)), (2, zi_istore 6), (0, zi_jump 3)],
  [(2, zi_iload 6), (3, zi_zlt 8), (1, zi_aload 0), (1, zi_iload 2), (2, zi_iload 6), (1, zi_aload 0), (3, zi_getR 7 3), (1, zi_iload 1), (3, zi_callV 2 34 2 4)],
  [(1, zi_aload 0), (3, zi_getR 7 3), (1, zi_iload 1), (3, zi_callV 2 35 2 5)],
  [(3, zi_callV 7 145 5 6)],
  [(3, zi_zeq 7), (2, zi_iload 6), (2, zi_istore 4), (3, zi_iinc 5 1), (0, zi_jump 7)],
  [(3, zi_iinc 6 (-1)), (3, zi_jump 3)],
  [(1, zi_aload 0), (2, zi_iload 4), (3, zi_putI 7 10), (2, zi_iload 5), (1, zi_iret)]]
def pc_128 : List Nat := [0, 6, 13, 24, 41, 49, 52, 62, 68]
set_option maxRecDepth 20000 in
theorem sa_128 : zz_SA zz_mt RX7 yX7_from cX7_from (some .int) 7 pc_128 pc_128 tb_128 := ⟨⟨⟨zs_aload_n (k := 0) rfl (by decide +kernel), zg_aload _⟩, ⟨zs_iload_n (k := 1) rfl (by decide +kernel), zg_iload _⟩, ⟨zs_iload_n (k := 2) rfl (by decide +kernel), zg_iload _⟩, ⟨zs_callV (ci := 7) (C := RX7) (T := TX7) (N := 11) (n := 2) rfl mk_144 rfl ⟨rfl, rfl⟩ ck_144 wd_828 wd_830 wd_19 rfl (by decide +kernel), zg_callV _ _ _ _⟩, trivial⟩,
  ⟨⟨zs_istore_n (k := 3) rfl (by decide +kernel), zg_istore _⟩, ⟨zs_iload_n (k := 3) rfl (by decide +kernel), zg_iload _⟩, ⟨zs_zeq (off := 5) (q := 13) (by decide +kernel) rfl (by decide), zg_zeq _⟩, ⟨zs_iload_n (k := 3) rfl (by decide +kernel), zg_iload _⟩, ⟨zs_iret (by decide +kernel) rfl, zg_iret⟩, trivial⟩,
  ⟨⟨zs_bipush (n := (-9)) (by decide +kernel) (by decide), zg_push _⟩, ⟨zs_istore (by decide +kernel), zg_istore _⟩, ⟨zs_iconst (n := 0) (by decide +kernel) (by decide), zg_push _⟩, ⟨zs_istore (by decide +kernel), zg_istore _⟩, ⟨zs_bipush (n := 59) (by decide +kernel) (by decide), zg_push _⟩, ⟨zs_istore (by decide +kernel), zg_istore _⟩, ⟨zs_jump rfl, zg_jump _⟩, trivial⟩,
  ⟨⟨zs_iload (by decide +kernel), zg_iload _⟩, ⟨zs_zlt (off := 42) (q := 68) (by decide +kernel) rfl (by decide), zg_zlt _⟩, ⟨zs_aload_n (k := 0) rfl (by decide +kernel), zg_aload _⟩, ⟨zs_iload_n (k := 2) rfl (by decide +kernel), zg_iload _⟩, ⟨zs_iload (by decide +kernel), zg_iload _⟩, ⟨zs_aload_n (k := 0) rfl (by decide +kernel), zg_aload _⟩, ⟨zs_getR (ci := 7) (k := 3) (C := RX7) (T := TX7) (N := 11) rfl (by decide) rfl wd_284 (by decide +kernel), zg_getR _ _⟩, ⟨zs_iload_n (k := 1) rfl (by decide +kernel), zg_iload _⟩, ⟨zs_callV (ci := 2) (C := RX2) (T := TX2) (N := 14) (n := 1) rfl mk_34 rfl ⟨rfl, rfl⟩ ck_34 wd_832 wd_498 wd_499 rfl (by decide +kernel), zg_callV _ _ _ _⟩, trivial⟩,
  ⟨⟨zs_aload_n (k := 0) rfl (by decide +kernel), zg_aload _⟩, ⟨zs_getR (ci := 7) (k := 3) (C := RX7) (T := TX7) (N := 11) rfl (by decide) rfl wd_284 (by decide +kernel), zg_getR _ _⟩, ⟨zs_iload_n (k := 1) rfl (by decide +kernel), zg_iload _⟩, ⟨zs_callV (ci := 2) (C := RX2) (T := TX2) (N := 14) (n := 1) rfl mk_35 rfl ⟨rfl, rfl⟩ ck_35 wd_842 wd_502 wd_503 rfl (by decide +kernel), zg_callV _ _ _ _⟩, trivial⟩,
  ⟨⟨zs_callV (ci := 7) (C := RX7) (T := TX7) (N := 11) (n := 4) rfl mk_145 rfl ⟨rfl, rfl⟩ ck_145 wd_833 wd_835 wd_20 rfl (by decide +kernel), zg_callV _ _ _ _⟩, trivial⟩,
  ⟨⟨zs_zeq (off := 10) (q := 62) (by decide +kernel) rfl (by decide), zg_zeq _⟩, ⟨zs_iload (by decide +kernel), zg_iload _⟩, ⟨zs_istore (by decide +kernel), zg_istore _⟩, ⟨zs_iinc (n := 1) (by decide +kernel) (by decide), zg_iinc _ _⟩, ⟨zs_jump rfl, zg_jump _⟩, trivial⟩,
  ⟨⟨zs_iinc (n := (-1)) (by decide +kernel) (by decide), zg_iinc _ _⟩, ⟨zs_goto (off := (-41)) (q := 24) (by decide +kernel) rfl (by decide), zg_jump _⟩, trivial⟩,
  ⟨⟨zs_aload_n (k := 0) rfl (by decide +kernel), zg_aload _⟩, ⟨zs_iload (by decide +kernel), zg_iload _⟩, ⟨zs_putI (ci := 7) (k := 10) (C := RX7) (T := TX7) (N := 11) rfl (by decide) rfl rfl wd_291 (by decide +kernel), zg_putI _ _⟩, ⟨zs_iload (by decide +kernel), zg_iload _⟩, ⟨zs_iret (by decide +kernel) rfl, zg_iret⟩, trivial⟩, trivial⟩
-- NeverTogether.cat(I)I
def tb_129 : List zz_B := [[(1, zi_iload 1), (3, zi_zlt 1), (1, zi_iload 1), (1, zi_push (.int 2)), (3, zi_cle 2), (0, zi_jump 1)],
  [(1, zi_push (.int (-1))), (1, zi_iret)],
  [(1, zi_aload 0), (3, zi_getR 7 3), (3, zi_getI 2 10), (3, zi_zne 3), (2, zi_push (.int (-4))), (1, zi_iret)],
  [(1, zi_aload 0), (3, zi_getR 7 6), (1, zi_aload 0), (3, zi_getR 7 3), (1, zi_iload 1), (3, zi_callV 1 88 3 4)],
  [(3, zi_zeq 5), (1, zi_push (.int 1)), (3, zi_jump 6)],
  [(1, zi_push (.int 0)), (0, zi_jump 6)],
  [(1, zi_iret)]]
def pc_129 : List Nat := [0, 9, 11, 24, 36, 43, 44]
set_option maxRecDepth 20000 in
theorem sa_129 : zz_SA zz_mt RX7 yX7_cat cX7_cat (some .int) 2 pc_129 pc_129 tb_129 := ⟨⟨⟨zs_iload_n (k := 1) rfl (by decide +kernel), zg_iload _⟩, ⟨zs_zlt (off := 8) (q := 9) (by decide +kernel) rfl (by decide), zg_zlt _⟩, ⟨zs_iload_n (k := 1) rfl (by decide +kernel), zg_iload _⟩, ⟨zs_iconst (n := 2) (by decide +kernel) (by decide), zg_push _⟩, ⟨zs_cle (off := 5) (q := 11) (by decide +kernel) rfl (by decide), zg_cle _⟩, ⟨zs_jump rfl, zg_jump _⟩, trivial⟩,
  ⟨⟨zs_iconst (n := (-1)) (by decide +kernel) (by decide), zg_push _⟩, ⟨zs_iret (by decide +kernel) rfl, zg_iret⟩, trivial⟩,
  ⟨⟨zs_aload_n (k := 0) rfl (by decide +kernel), zg_aload _⟩, ⟨zs_getR (ci := 7) (k := 3) (C := RX7) (T := TX7) (N := 11) rfl (by decide) rfl wd_284 (by decide +kernel), zg_getR _ _⟩, ⟨zs_getIN (ci := 2) (k := 10) (C := RX2) (T := TX2) (N := 14) rfl (by decide) (Or.inl rfl) wn_164 (by decide +kernel), zg_getI _ _⟩, ⟨zs_zne (off := 6) (q := 24) (by decide +kernel) rfl (by decide), zg_zne _⟩, ⟨zs_bipush (n := (-4)) (by decide +kernel) (by decide), zg_push _⟩, ⟨zs_iret (by decide +kernel) rfl, zg_iret⟩, trivial⟩,
  ⟨⟨zs_aload_n (k := 0) rfl (by decide +kernel), zg_aload _⟩, ⟨zs_getR (ci := 7) (k := 6) (C := RX7) (T := TX7) (N := 11) rfl (by decide) rfl wd_287 (by decide +kernel), zg_getR _ _⟩, ⟨zs_aload_n (k := 0) rfl (by decide +kernel), zg_aload _⟩, ⟨zs_getR (ci := 7) (k := 3) (C := RX7) (T := TX7) (N := 11) rfl (by decide) rfl wd_284 (by decide +kernel), zg_getR _ _⟩, ⟨zs_iload_n (k := 1) rfl (by decide +kernel), zg_iload _⟩, ⟨zs_callV (ci := 1) (C := RX1) (T := TX1) (N := 1) (n := 2) rfl mk_88 rfl ⟨rfl, rfl⟩ ck_88 wd_851 wd_852 wd_853 rfl (by decide +kernel), zg_callV _ _ _ _⟩, trivial⟩,
  ⟨⟨zs_zeq (off := 7) (q := 43) (by decide +kernel) rfl (by decide), zg_zeq _⟩, ⟨zs_iconst (n := 1) (by decide +kernel) (by decide), zg_push _⟩, ⟨zs_goto (off := 4) (q := 44) (by decide +kernel) rfl (by decide), zg_jump _⟩, trivial⟩,
  ⟨⟨zs_iconst (n := 0) (by decide +kernel) (by decide), zg_push _⟩, ⟨zs_jump rfl, zg_jump _⟩, trivial⟩,
  ⟨⟨zs_iret (by decide +kernel) rfl, zg_iret⟩, trivial⟩, trivial⟩
-- NeverTogether.first(I)I
def tb_130 : List zz_B := [[(1, zi_iload 1), (1, zi_push (.int 1)), (3, zi_clt 1), (1, zi_iload 1), (1, zi_push (.int 2)), (3, zi_cle 2), (0, zi_jump 1)],
  [(1, zi_push (.int (-1))), (1, zi_iret)],
  [(1, zi_aload 0), (3, zi_getR 7 3), (3, zi_getI 2 10), (3, zi_zne 3), (2, zi_push (.int (-4))), (1, zi_iret)],
  [(1, zi_aload 0), (3, zi_getR 7 6), (1, zi_aload 0), (3, zi_getR 7 3), (1, zi_iload 1), (3, zi_callV 1 89 3 4)],
  [(1, zi_iret)]]
def pc_130 : List Nat := [0, 10, 12, 25, 37]
set_option maxRecDepth 20000 in
theorem sa_130 : zz_SA zz_mt RX7 yX7_first cX7_first (some .int) 2 pc_130 pc_130 tb_130 := ⟨⟨⟨zs_iload_n (k := 1) rfl (by decide +kernel), zg_iload _⟩, ⟨zs_iconst (n := 1) (by decide +kernel) (by decide), zg_push _⟩, ⟨zs_clt (off := 8) (q := 10) (by decide +kernel) rfl (by decide), zg_clt _⟩, ⟨zs_iload_n (k := 1) rfl (by decide +kernel), zg_iload _⟩, ⟨zs_iconst (n := 2) (by decide +kernel) (by decide), zg_push _⟩, ⟨zs_cle (off := 5) (q := 12) (by decide +kernel) rfl (by decide), zg_cle _⟩, ⟨zs_jump rfl, zg_jump _⟩, trivial⟩,
  ⟨⟨zs_iconst (n := (-1)) (by decide +kernel) (by decide), zg_push _⟩, ⟨zs_iret (by decide +kernel) rfl, zg_iret⟩, trivial⟩,
  ⟨⟨zs_aload_n (k := 0) rfl (by decide +kernel), zg_aload _⟩, ⟨zs_getR (ci := 7) (k := 3) (C := RX7) (T := TX7) (N := 11) rfl (by decide) rfl wd_284 (by decide +kernel), zg_getR _ _⟩, ⟨zs_getIN (ci := 2) (k := 10) (C := RX2) (T := TX2) (N := 14) rfl (by decide) (Or.inl rfl) wn_164 (by decide +kernel), zg_getI _ _⟩, ⟨zs_zne (off := 6) (q := 25) (by decide +kernel) rfl (by decide), zg_zne _⟩, ⟨zs_bipush (n := (-4)) (by decide +kernel) (by decide), zg_push _⟩, ⟨zs_iret (by decide +kernel) rfl, zg_iret⟩, trivial⟩,
  ⟨⟨zs_aload_n (k := 0) rfl (by decide +kernel), zg_aload _⟩, ⟨zs_getR (ci := 7) (k := 6) (C := RX7) (T := TX7) (N := 11) rfl (by decide) rfl wd_287 (by decide +kernel), zg_getR _ _⟩, ⟨zs_aload_n (k := 0) rfl (by decide +kernel), zg_aload _⟩, ⟨zs_getR (ci := 7) (k := 3) (C := RX7) (T := TX7) (N := 11) rfl (by decide) rfl wd_284 (by decide +kernel), zg_getR _ _⟩, ⟨zs_iload_n (k := 1) rfl (by decide +kernel), zg_iload _⟩, ⟨zs_callV (ci := 1) (C := RX1) (T := TX1) (N := 1) (n := 2) rfl mk_89 rfl ⟨rfl, rfl⟩ ck_89 wd_875 wd_876 wd_877 rfl (by decide +kernel), zg_callV _ _ _ _⟩, trivial⟩,
  ⟨⟨zs_iret (by decide +kernel) rfl, zg_iret⟩, trivial⟩, trivial⟩
-- NeverTogether.odds(IIII)I
def tb_131 : List zz_B := [[(1, zi_aload 0), (3, zi_getR 7 3), (1, zi_iload 1), (1, zi_iload 2), (3, zi_callV 2 32 3 1)],
  [(3, zi_zeq 3), (1, zi_iload 3), (3, zi_zlt 3), (1, zi_iload 3), (2, zi_push (.int 6)), (3, zi_cgt 3), (2, zi_iload 4), (3, zi_callS 151 1 2)],
  [(3, zi_zne 4), (0, zi_jump 3)],
  [(1, zi_push (.int (-1))), (1, zi_iret)],
  [(1, zi_aload 0), (3, zi_getR 7 7), (1, zi_aload 0), (3, zi_getR 7 3), (1, zi_iload 1), (1, zi_iload 2), (1, zi_iload 3), (2, zi_iload 4), (3, zi_callV 0 92 6 5)],
  [(1, zi_push (.int 1)), (1, zi_iret)]]
def pc_131 : List Nat := [0, 9, 27, 30, 32, 48]
set_option maxRecDepth 20000 in
theorem sa_131 : zz_SA zz_mt RX7 yX7_odds cX7_odds (some .int) 5 pc_131 pc_131 tb_131 := ⟨⟨⟨zs_aload_n (k := 0) rfl (by decide +kernel), zg_aload _⟩, ⟨zs_getR (ci := 7) (k := 3) (C := RX7) (T := TX7) (N := 11) rfl (by decide) rfl wd_284 (by decide +kernel), zg_getR _ _⟩, ⟨zs_iload_n (k := 1) rfl (by decide +kernel), zg_iload _⟩, ⟨zs_iload_n (k := 2) rfl (by decide +kernel), zg_iload _⟩, ⟨zs_callV (ci := 2) (C := RX2) (T := TX2) (N := 14) (n := 2) rfl mk_32 rfl ⟨rfl, rfl⟩ ck_32 wd_658 wd_659 wd_660 rfl (by decide +kernel), zg_callV _ _ _ _⟩, trivial⟩,
  ⟨⟨zs_zeq (off := 21) (q := 30) (by decide +kernel) rfl (by decide), zg_zeq _⟩, ⟨zs_iload_n (k := 3) rfl (by decide +kernel), zg_iload _⟩, ⟨zs_zlt (off := 17) (q := 30) (by decide +kernel) rfl (by decide), zg_zlt _⟩, ⟨zs_iload_n (k := 3) rfl (by decide +kernel), zg_iload _⟩, ⟨zs_bipush (n := 6) (by decide +kernel) (by decide), zg_push _⟩, ⟨zs_cgt (off := 11) (q := 30) (by decide +kernel) rfl (by decide), zg_cgt _⟩, ⟨zs_iload (by decide +kernel), zg_iload _⟩, ⟨zs_callS (n := 1) mk_151 ⟨rfl, rfl⟩ ck_151 wd_883 wd_884 wd_69 rfl (by decide +kernel), zg_callS _ _ _⟩, trivial⟩,
  ⟨⟨zs_zne (off := 5) (q := 32) (by decide +kernel) rfl (by decide), zg_zne _⟩, ⟨zs_jump rfl, zg_jump _⟩, trivial⟩,
  ⟨⟨zs_iconst (n := (-1)) (by decide +kernel) (by decide), zg_push _⟩, ⟨zs_iret (by decide +kernel) rfl, zg_iret⟩, trivial⟩,
  ⟨⟨zs_aload_n (k := 0) rfl (by decide +kernel), zg_aload _⟩, ⟨zs_getR (ci := 7) (k := 7) (C := RX7) (T := TX7) (N := 11) rfl (by decide) rfl wd_288 (by decide +kernel), zg_getR _ _⟩, ⟨zs_aload_n (k := 0) rfl (by decide +kernel), zg_aload _⟩, ⟨zs_getR (ci := 7) (k := 3) (C := RX7) (T := TX7) (N := 11) rfl (by decide) rfl wd_284 (by decide +kernel), zg_getR _ _⟩, ⟨zs_iload_n (k := 1) rfl (by decide +kernel), zg_iload _⟩, ⟨zs_iload_n (k := 2) rfl (by decide +kernel), zg_iload _⟩, ⟨zs_iload_n (k := 3) rfl (by decide +kernel), zg_iload _⟩, ⟨zs_iload (by decide +kernel), zg_iload _⟩, ⟨zs_callV (ci := 0) (C := RX0) (T := TX0) (N := 4) (n := 5) rfl mk_92 rfl ⟨rfl, rfl⟩ ck_92 wd_886 wd_887 wd_888 rfl (by decide +kernel), zg_callV _ _ _ _⟩, trivial⟩,
  ⟨⟨zs_iconst (n := 1) (by decide +kernel) (by decide), zg_push _⟩, ⟨zs_iret (by decide +kernel) rfl, zg_iret⟩, trivial⟩, trivial⟩
-- NeverTogether.mid(III)I
def tb_132 : List zz_B := [[(1, zi_aload 0), (3, zi_getR 7 3), (1, zi_iload 1), (3, zi_callV 2 31 2 1)],
  [(3, zi_zeq 3), (1, zi_iload 2), (3, zi_zlt 3), (1, zi_iload 2), (2, zi_push (.int 60)), (3, zi_cgt 3), (1, zi_iload 3), (3, zi_callS 151 1 2)],
  [(3, zi_zne 4), (0, zi_jump 3)],
  [(1, zi_push (.int (-1))), (1, zi_iret)],
  [(1, zi_aload 0), (3, zi_getR 7 7), (1, zi_aload 0), (3, zi_getR 7 3), (1, zi_iload 1), (3, zi_callV 2 34 2 5)],
  [(1, zi_push (.int 3)), (3, zi_cne 6), (1, zi_push (.long 0)), (3, zi_jump 7)],
  [(1, zi_iload 2), (1, zi_i2l), (1, zi_iload 3), (1, zi_i2l), (1, zi_lbin (fun x y => x * y)), (0, zi_jump 7)],
  [(3, zi_push (.long 12)), (3, zi_callV 0 94 3 8)],
  [(1, zi_push (.int 1)), (1, zi_iret)]]
def pc_132 : List Nat := [0, 8, 25, 28, 30, 42, 50, 55, 61]
set_option maxRecDepth 20000 in
theorem sa_132 : zz_SA zz_mt RX7 yX7_mid cX7_mid (some .int) 4 pc_132 pc_132 tb_132 := ⟨⟨⟨zs_aload_n (k := 0) rfl (by decide +kernel), zg_aload _⟩, ⟨zs_getR (ci := 7) (k := 3) (C := RX7) (T := TX7) (N := 11) rfl (by decide) rfl wd_284 (by decide +kernel), zg_getR _ _⟩, ⟨zs_iload_n (k := 1) rfl (by decide +kernel), zg_iload _⟩, ⟨zs_callV (ci := 2) (C := RX2) (T := TX2) (N := 14) (n := 1) rfl mk_31 rfl ⟨rfl, rfl⟩ ck_31 wd_492 wd_477 wd_478 rfl (by decide +kernel), zg_callV _ _ _ _⟩, trivial⟩,
  ⟨⟨zs_zeq (off := 20) (q := 28) (by decide +kernel) rfl (by decide), zg_zeq _⟩, ⟨zs_iload_n (k := 2) rfl (by decide +kernel), zg_iload _⟩, ⟨zs_zlt (off := 16) (q := 28) (by decide +kernel) rfl (by decide), zg_zlt _⟩, ⟨zs_iload_n (k := 2) rfl (by decide +kernel), zg_iload _⟩, ⟨zs_bipush (n := 60) (by decide +kernel) (by decide), zg_push _⟩, ⟨zs_cgt (off := 10) (q := 28) (by decide +kernel) rfl (by decide), zg_cgt _⟩, ⟨zs_iload_n (k := 3) rfl (by decide +kernel), zg_iload _⟩, ⟨zs_callS (n := 1) mk_151 ⟨rfl, rfl⟩ ck_151 wd_883 wd_884 wd_69 rfl (by decide +kernel), zg_callS _ _ _⟩, trivial⟩,
  ⟨⟨zs_zne (off := 5) (q := 30) (by decide +kernel) rfl (by decide), zg_zne _⟩, ⟨zs_jump rfl, zg_jump _⟩, trivial⟩,
  ⟨⟨zs_iconst (n := (-1)) (by decide +kernel) (by decide), zg_push _⟩, ⟨zs_iret (by decide +kernel) rfl, zg_iret⟩, trivial⟩,
  ⟨⟨zs_aload_n (k := 0) rfl (by decide +kernel), zg_aload _⟩, ⟨zs_getR (ci := 7) (k := 7) (C := RX7) (T := TX7) (N := 11) rfl (by decide) rfl wd_288 (by decide +kernel), zg_getR _ _⟩, ⟨zs_aload_n (k := 0) rfl (by decide +kernel), zg_aload _⟩, ⟨zs_getR (ci := 7) (k := 3) (C := RX7) (T := TX7) (N := 11) rfl (by decide) rfl wd_284 (by decide +kernel), zg_getR _ _⟩, ⟨zs_iload_n (k := 1) rfl (by decide +kernel), zg_iload _⟩, ⟨zs_callV (ci := 2) (C := RX2) (T := TX2) (N := 14) (n := 1) rfl mk_34 rfl ⟨rfl, rfl⟩ ck_34 wd_832 wd_498 wd_499 rfl (by decide +kernel), zg_callV _ _ _ _⟩, trivial⟩,
  ⟨⟨zs_iconst (n := 3) (by decide +kernel) (by decide), zg_push _⟩, ⟨zs_cne (off := 7) (q := 50) (by decide +kernel) rfl (by decide), zg_cne _⟩, ⟨zs_lconst (n := 0) (by decide +kernel) (by decide), zg_push _⟩, ⟨zs_goto (off := 8) (q := 55) (by decide +kernel) rfl (by decide), zg_jump _⟩, trivial⟩,
  ⟨⟨zs_iload_n (k := 2) rfl (by decide +kernel), zg_iload _⟩, ⟨zs_i2l (by decide +kernel), zg_i2l⟩, ⟨zs_iload_n (k := 3) rfl (by decide +kernel), zg_iload _⟩, ⟨zs_i2l (by decide +kernel), zg_i2l⟩, ⟨zs_lmul (by decide +kernel), zg_lbin _⟩, ⟨zs_jump rfl, zg_jump _⟩, trivial⟩,
  ⟨⟨zs_ldc2 (i := 316) wd_906 (by decide +kernel), zg_push _⟩, ⟨zs_callV (ci := 0) (C := RX0) (T := TX0) (N := 4) (n := 2) rfl mk_94 rfl ⟨rfl, rfl⟩ ck_94 wd_907 wd_899 wd_900 rfl (by decide +kernel), zg_callV _ _ _ _⟩, trivial⟩,
  ⟨⟨zs_iconst (n := 1) (by decide +kernel) (by decide), zg_push _⟩, ⟨zs_iret (by decide +kernel) rfl, zg_iret⟩, trivial⟩, trivial⟩
-- NeverTogether.lots(II)I
def tb_133 : List zz_B := [[(1, zi_iload 1), (1, zi_push (.int 1)), (3, zi_clt 1), (1, zi_iload 1), (2, zi_push (.int 20)), (3, zi_cgt 1), (1, zi_iload 2), (1, zi_push (.int 1)), (3, zi_clt 1), (1, zi_iload 2), (3, zi_push (.int 2147483646)), (3, zi_cle 2), (0, zi_jump 1)],
  [(1, zi_push (.int (-1))), (1, zi_iret)],
  [(1, zi_aload 0), (3, zi_getR 7 3), (3, zi_getI 2 10), (3, zi_zne 3), (2, zi_push (.int (-4))), (1, zi_iret)],
  [(1, zi_aload 0), (3, zi_getR 7 3), (1, zi_push (.int 2)), (1, zi_iload 1), (1, zi_ibin (fun x y => x * y)), (3, zi_callV 2 51 2 4)],
  [(3, zi_zne 5), (2, zi_push (.int (-2))), (1, zi_iret)],
  [(1, zi_iload 2), (1, zi_i2l), (1, zi_lstore 3), (1, zi_push (.int 0)), (2, zi_istore 5), (0, zi_jump 6)],
  [(2, zi_iload 5), (1, zi_iload 1), (3, zi_cge 10), (1, zi_lload 3), (3, zi_push (.long 48271)), (1, zi_lbin (fun x y => x * y)), (3, zi_push (.long 2147483647)), (1, zi_ldiv (fun x y => x - x / y * y)), (1, zi_lstore 3), (0, zi_jump 7)],
  [(1, zi_aload 0), (3, zi_getR 7 3), (1, zi_lload 3), (3, zi_callV 2 54 2 8)],
  [(1, zi_aload 0), (3, zi_getR 7 3), (3, zi_callV 2 52 1 9)],
  [(3, zi_iinc 5 1), (3, zi_jump 6)],
  [(1, zi_aload 0), (3, zi_callV 7 147 1 11)],
  [(1, zi_iret)]]
def pc_133 : List Nat := [0, 23, 25, 38, 48, 54, 60, 76, 84, 91, 97, 101]
set_option maxRecDepth 20000 in
theorem sa_133 : zz_SA zz_mt RX7 yX7_lots cX7_lots (some .int) 6 pc_133 pc_133 tb_133 := ⟨⟨⟨zs_iload_n (k := 1) rfl (by decide +kernel), zg_iload _⟩, ⟨zs_iconst (n := 1) (by decide +kernel) (by decide), zg_push _⟩, ⟨zs_clt (off := 21) (q := 23) (by decide +kernel) rfl (by decide), zg_clt _⟩, ⟨zs_iload_n (k := 1) rfl (by decide +kernel), zg_iload _⟩, ⟨zs_bipush (n := 20) (by decide +kernel) (by decide), zg_push _⟩, ⟨zs_cgt (off := 15) (q := 23) (by decide +kernel) rfl (by decide), zg_cgt _⟩, ⟨zs_iload_n (k := 2) rfl (by decide +kernel), zg_iload _⟩, ⟨zs_iconst (n := 1) (by decide +kernel) (by decide), zg_push _⟩, ⟨zs_clt (off := 10) (q := 23) (by decide +kernel) rfl (by decide), zg_clt _⟩, ⟨zs_iload_n (k := 2) rfl (by decide +kernel), zg_iload _⟩, ⟨zs_ldcw (i := 322) wd_912 (by decide +kernel), zg_push _⟩, ⟨zs_cle (off := 5) (q := 25) (by decide +kernel) rfl (by decide), zg_cle _⟩, ⟨zs_jump rfl, zg_jump _⟩, trivial⟩,
  ⟨⟨zs_iconst (n := (-1)) (by decide +kernel) (by decide), zg_push _⟩, ⟨zs_iret (by decide +kernel) rfl, zg_iret⟩, trivial⟩,
  ⟨⟨zs_aload_n (k := 0) rfl (by decide +kernel), zg_aload _⟩, ⟨zs_getR (ci := 7) (k := 3) (C := RX7) (T := TX7) (N := 11) rfl (by decide) rfl wd_284 (by decide +kernel), zg_getR _ _⟩, ⟨zs_getIN (ci := 2) (k := 10) (C := RX2) (T := TX2) (N := 14) rfl (by decide) (Or.inl rfl) wn_164 (by decide +kernel), zg_getI _ _⟩, ⟨zs_zne (off := 6) (q := 38) (by decide +kernel) rfl (by decide), zg_zne _⟩, ⟨zs_bipush (n := (-4)) (by decide +kernel) (by decide), zg_push _⟩, ⟨zs_iret (by decide +kernel) rfl, zg_iret⟩, trivial⟩,
  ⟨⟨zs_aload_n (k := 0) rfl (by decide +kernel), zg_aload _⟩, ⟨zs_getR (ci := 7) (k := 3) (C := RX7) (T := TX7) (N := 11) rfl (by decide) rfl wd_284 (by decide +kernel), zg_getR _ _⟩, ⟨zs_iconst (n := 2) (by decide +kernel) (by decide), zg_push _⟩, ⟨zs_iload_n (k := 1) rfl (by decide +kernel), zg_iload _⟩, ⟨zs_imul (by decide +kernel), zg_ibin _⟩, ⟨zs_callV (ci := 2) (C := RX2) (T := TX2) (N := 14) (n := 1) rfl mk_51 rfl ⟨rfl, rfl⟩ ck_51 wd_590 wd_591 wd_592 rfl (by decide +kernel), zg_callV _ _ _ _⟩, trivial⟩,
  ⟨⟨zs_zne (off := 6) (q := 54) (by decide +kernel) rfl (by decide), zg_zne _⟩, ⟨zs_bipush (n := (-2)) (by decide +kernel) (by decide), zg_push _⟩, ⟨zs_iret (by decide +kernel) rfl, zg_iret⟩, trivial⟩,
  ⟨⟨zs_iload_n (k := 2) rfl (by decide +kernel), zg_iload _⟩, ⟨zs_i2l (by decide +kernel), zg_i2l⟩, ⟨zs_lstore_n (k := 3) rfl (by decide +kernel), zg_lstore _⟩, ⟨zs_iconst (n := 0) (by decide +kernel) (by decide), zg_push _⟩, ⟨zs_istore (by decide +kernel), zg_istore _⟩, ⟨zs_jump rfl, zg_jump _⟩, trivial⟩,
  ⟨⟨zs_iload (by decide +kernel), zg_iload _⟩, ⟨zs_iload_n (k := 1) rfl (by decide +kernel), zg_iload _⟩, ⟨zs_cge (off := 34) (q := 97) (by decide +kernel) rfl (by decide), zg_cge _⟩, ⟨zs_lload_n (k := 3) rfl (by decide +kernel), zg_lload _⟩, ⟨zs_ldc2 (i := 323) wd_913 (by decide +kernel), zg_push _⟩, ⟨zs_lmul (by decide +kernel), zg_lbin _⟩, ⟨zs_ldc2 (i := 325) wd_914 (by decide +kernel), zg_push _⟩, ⟨zs_lrem (by decide +kernel), zg_ldiv _⟩, ⟨zs_lstore_n (k := 3) rfl (by decide +kernel), zg_lstore _⟩, ⟨zs_jump rfl, zg_jump _⟩, trivial⟩,
  ⟨⟨zs_aload_n (k := 0) rfl (by decide +kernel), zg_aload _⟩, ⟨zs_getR (ci := 7) (k := 3) (C := RX7) (T := TX7) (N := 11) rfl (by decide) rfl wd_284 (by decide +kernel), zg_getR _ _⟩, ⟨zs_lload_n (k := 3) rfl (by decide +kernel), zg_lload _⟩, ⟨zs_callV (ci := 2) (C := RX2) (T := TX2) (N := 14) (n := 1) rfl mk_54 rfl ⟨rfl, rfl⟩ ck_54 wd_915 wd_916 wd_917 rfl (by decide +kernel), zg_callV _ _ _ _⟩, trivial⟩,
  ⟨⟨zs_aload_n (k := 0) rfl (by decide +kernel), zg_aload _⟩, ⟨zs_getR (ci := 7) (k := 3) (C := RX7) (T := TX7) (N := 11) rfl (by decide) rfl wd_284 (by decide +kernel), zg_getR _ _⟩, ⟨zs_callV (ci := 2) (C := RX2) (T := TX2) (N := 14) (n := 0) rfl mk_52 rfl ⟨rfl, rfl⟩ ck_52 wd_594 wd_595 wd_596 rfl (by decide +kernel), zg_callV _ _ _ _⟩, trivial⟩,
  ⟨⟨zs_iinc (n := 1) (by decide +kernel) (by decide), zg_iinc _ _⟩, ⟨zs_goto (off := (-34)) (q := 60) (by decide +kernel) rfl (by decide), zg_jump _⟩, trivial⟩,
  ⟨⟨zs_aload_n (k := 0) rfl (by decide +kernel), zg_aload _⟩, ⟨zs_callV (ci := 7) (C := RX7) (T := TX7) (N := 11) (n := 0) rfl mk_147 rfl ⟨rfl, rfl⟩ ck_147 wd_598 wd_600 wd_11 rfl (by decide +kernel), zg_callV _ _ _ _⟩, trivial⟩,
  ⟨⟨zs_iret (by decide +kernel) rfl, zg_iret⟩, trivial⟩, trivial⟩
-- NeverTogether.asked()I
def tb_134 : List zz_B := [[(1, zi_aload 0), (3, zi_getI 7 10), (1, zi_iret)]]
def pc_134 : List Nat := [0]
set_option maxRecDepth 20000 in
theorem sa_134 : zz_SA zz_mt RX7 yX7_asked cX7_asked (some .int) 1 pc_134 pc_134 tb_134 := ⟨⟨⟨zs_aload_n (k := 0) rfl (by decide +kernel), zg_aload _⟩, ⟨zs_getI (ci := 7) (k := 10) (C := RX7) (T := TX7) (N := 11) rfl (by decide) (Or.inl rfl) wd_291 (by decide +kernel), zg_getI _ _⟩, ⟨zs_iret (by decide +kernel) rfl, zg_iret⟩, trivial⟩, trivial⟩
-- NeverTogether.upper()J
def tb_135 : List zz_B := [[(1, zi_aload 0), (3, zi_getR 7 7), (3, zi_getL 0 2), (1, zi_lret)]]
def pc_135 : List Nat := [0]
set_option maxRecDepth 20000 in
theorem sa_135 : zz_SA zz_mt RX7 yX7_upper cX7_upper (some .long) 1 pc_135 pc_135 tb_135 := ⟨⟨⟨zs_aload_n (k := 0) rfl (by decide +kernel), zg_aload _⟩, ⟨zs_getR (ci := 7) (k := 7) (C := RX7) (T := TX7) (N := 11) rfl (by decide) rfl wd_288 (by decide +kernel), zg_getR _ _⟩, ⟨zs_getLN (ci := 0) (k := 2) (C := RX0) (T := TX0) (N := 4) rfl (by decide) rfl wn_269 (by decide +kernel), zg_getL _ _⟩, ⟨zs_lret (by decide +kernel) rfl, zg_lret⟩, trivial⟩, trivial⟩
-- NeverTogether.lower()J
def tb_136 : List zz_B := [[(1, zi_aload 0), (3, zi_getR 7 7), (3, zi_getL 0 3), (1, zi_lret)]]
def pc_136 : List Nat := [0]
set_option maxRecDepth 20000 in
theorem sa_136 : zz_SA zz_mt RX7 yX7_lower cX7_lower (some .long) 1 pc_136 pc_136 tb_136 := ⟨⟨⟨zs_aload_n (k := 0) rfl (by decide +kernel), zg_aload _⟩, ⟨zs_getR (ci := 7) (k := 7) (C := RX7) (T := TX7) (N := 11) rfl (by decide) rfl wd_288 (by decide +kernel), zg_getR _ _⟩, ⟨zs_getLN (ci := 0) (k := 3) (C := RX0) (T := TX0) (N := 4) rfl (by decide) rfl wn_271 (by decide +kernel), zg_getL _ _⟩, ⟨zs_lret (by decide +kernel) rfl, zg_lret⟩, trivial⟩, trivial⟩
-- NeverTogether.count(I)I
def tb_137 : List zz_B := [[(1, zi_iload 1), (3, zi_zlt 1), (1, zi_iload 1), (2, zi_push (.int 8)), (3, zi_cle 2), (0, zi_jump 1)],
  [(1, zi_push (.int (-1))), (1, zi_iret)],
  [(1, zi_aload 0), (1, zi_iload 1), (3, zi_callV 7 148 2 3)],
  [(1, zi_iret)]]
def pc_137 : List Nat := [0, 10, 12, 17]
set_option maxRecDepth 20000 in
theorem sa_137 : zz_SA zz_mt RX7 yX7_count cX7_count (some .int) 2 pc_137 pc_137 tb_137 := ⟨⟨⟨zs_iload_n (k := 1) rfl (by decide +kernel), zg_iload _⟩, ⟨zs_zlt (off := 9) (q := 10) (by decide +kernel) rfl (by decide), zg_zlt _⟩, ⟨zs_iload_n (k := 1) rfl (by decide +kernel), zg_iload _⟩, ⟨zs_bipush (n := 8) (by decide +kernel) (by decide), zg_push _⟩, ⟨zs_cle (off := 5) (q := 12) (by decide +kernel) rfl (by decide), zg_cle _⟩, ⟨zs_jump rfl, zg_jump _⟩, trivial⟩,
  ⟨⟨zs_iconst (n := (-1)) (by decide +kernel) (by decide), zg_push _⟩, ⟨zs_iret (by decide +kernel) rfl, zg_iret⟩, trivial⟩,
  ⟨⟨zs_aload_n (k := 0) rfl (by decide +kernel), zg_aload _⟩, ⟨zs_iload_n (k := 1) rfl (by decide +kernel), zg_iload _⟩, ⟨zs_callV (ci := 7) (C := RX7) (T := TX7) (N := 11) (n := 1) rfl mk_148 rfl ⟨rfl, rfl⟩ ck_148 wd_938 wd_940 wd_23 rfl (by decide +kernel), zg_callV _ _ _ _⟩, trivial⟩,
  ⟨⟨zs_iret (by decide +kernel) rfl, zg_iret⟩, trivial⟩, trivial⟩
-- NeverTogether.finding()I
def tb_138 : List zz_B := [[(1, zi_aload 0), (3, zi_getI 7 9), (1, zi_iret)]]
def pc_138 : List Nat := [0]
set_option maxRecDepth 20000 in
theorem sa_138 : zz_SA zz_mt RX7 yX7_finding cX7_finding (some .int) 1 pc_138 pc_138 tb_138 := ⟨⟨⟨zs_aload_n (k := 0) rfl (by decide +kernel), zg_aload _⟩, ⟨zs_getI (ci := 7) (k := 9) (C := RX7) (T := TX7) (N := 11) rfl (by decide) (Or.inl rfl) wd_290 (by decide +kernel), zg_getI _ _⟩, ⟨zs_iret (by decide +kernel) rfl, zg_iret⟩, trivial⟩, trivial⟩
-- NeverTogether.findings(I)I
def tb_139 : List zz_B := [[(1, zi_iload 1), (1, zi_push (.int 1)), (3, zi_clt 1), (1, zi_iload 1), (1, zi_push (.int 5)), (3, zi_cle 2), (0, zi_jump 1)],
  [(1, zi_push (.int (-1))), (1, zi_iret)],
  [(1, zi_aload 0), (3, zi_getR 7 8), (1, zi_iload 1), (1, zi_iald), (1, zi_iret)]]
def pc_139 : List Nat := [0, 10, 12]
set_option maxRecDepth 20000 in
theorem sa_139 : zz_SA zz_mt RX7 yX7_findings cX7_findings (some .int) 2 pc_139 pc_139 tb_139 := ⟨⟨⟨zs_iload_n (k := 1) rfl (by decide +kernel), zg_iload _⟩, ⟨zs_iconst (n := 1) (by decide +kernel) (by decide), zg_push _⟩, ⟨zs_clt (off := 8) (q := 10) (by decide +kernel) rfl (by decide), zg_clt _⟩, ⟨zs_iload_n (k := 1) rfl (by decide +kernel), zg_iload _⟩, ⟨zs_iconst (n := 5) (by decide +kernel) (by decide), zg_push _⟩, ⟨zs_cle (off := 5) (q := 12) (by decide +kernel) rfl (by decide), zg_cle _⟩, ⟨zs_jump rfl, zg_jump _⟩, trivial⟩,
  ⟨⟨zs_iconst (n := (-1)) (by decide +kernel) (by decide), zg_push _⟩, ⟨zs_iret (by decide +kernel) rfl, zg_iret⟩, trivial⟩,
  ⟨⟨zs_aload_n (k := 0) rfl (by decide +kernel), zg_aload _⟩, ⟨zs_getR (ci := 7) (k := 8) (C := RX7) (T := TX7) (N := 11) rfl (by decide) rfl wd_289 (by decide +kernel), zg_getR _ _⟩, ⟨zs_iload_n (k := 1) rfl (by decide +kernel), zg_iload _⟩, ⟨zs_iald (by decide +kernel), zg_iald⟩, ⟨zs_iret (by decide +kernel) rfl, zg_iret⟩, trivial⟩, trivial⟩
-- NeverTogether.digest()J
def tb_140 : List zz_B := [[(3, zi_push (.long 17)), (1, zi_lstore 1), (1, zi_push (.int 0)), (1, zi_istore 3), (0, zi_jump 1)],
  [(1, zi_iload 3), (2, zi_push (.int 8)), (3, zi_cgt 3), (3, zi_push (.long 31)), (1, zi_lload 1), (1, zi_lbin (fun x y => x * y)), (1, zi_aload 0), (1, zi_iload 3), (3, zi_callV 7 148 2 2)],
  [(1, zi_i2l), (1, zi_lbin (fun x y => x + y)), (1, zi_lstore 1), (3, zi_iinc 3 1), (3, zi_jump 1)],
  [(1, zi_push (.int 0)), (1, zi_istore 3), (0, zi_jump 4)],
  [(1, zi_iload 3), (1, zi_aload 0), (3, zi_getR 7 3), (3, zi_getI 2 10), (3, zi_cge 8), (1, zi_push (.int 0)), (2, zi_istore 4), (0, zi_jump 5)],
  [(2, zi_iload 4), (1, zi_push (.int 5)), (3, zi_cgt 7), (3, zi_push (.long 31)), (1, zi_lload 1), (1, zi_lbin (fun x y => x * y)), (1, zi_aload 0), (3, zi_getR 7 3), (1, zi_iload 3), (2, zi_iload 4), (3, zi_callV 2 39 3 6)],
  [(1, zi_i2l), (1, zi_lbin (fun x y => x + y)), (1, zi_lstore 1), (3, zi_iinc 4 1), (3, zi_jump 5)],
  [(3, zi_iinc 3 1), (3, zi_jump 4)],
  [(1, zi_push (.int 0)), (1, zi_istore 3), (0, zi_jump 9)],
  [(1, zi_iload 3), (1, zi_push (.int 3)), (3, zi_cge 11), (3, zi_push (.long 31)), (1, zi_lload 1), (1, zi_lbin (fun x y => x * y)), (1, zi_aload 0), (3, zi_getR 7 3), (1, zi_iload 3), (3, zi_callV 2 58 2 10)],
  [(1, zi_i2l), (1, zi_lbin (fun x y => x + y)), (1, zi_lstore 1), (3, zi_iinc 3 1), (3, zi_jump 9)],
  [(1, zi_aload 0), (3, zi_getR 7 1), (1, zi_aload 0), (3, zi_getR 7 0), (1, zi_lload 1), (3, zi_callV 6 23 2 12)],
  [(3, zi_callV 6 23 2 13)],
  [(1, zi_lret)]]
def pc_140 : List Nat := [0, 6, 22, 31, 33, 47, 68, 77, 83, 85, 103, 112, 124, 127]
set_option maxRecDepth 20000 in
theorem sa_140 : zz_SA zz_mt RX7 yX7_digest cX7_digest (some .long) 5 pc_140 pc_140 tb_140 := ⟨⟨⟨zs_ldc2 (i := 341) wd_967 (by decide +kernel), zg_push _⟩, ⟨zs_lstore_n (k := 1) rfl (by decide +kernel), zg_lstore _⟩, ⟨zs_iconst (n := 0) (by decide +kernel) (by decide), zg_push _⟩, ⟨zs_istore_n (k := 3) rfl (by decide +kernel), zg_istore _⟩, ⟨zs_jump rfl, zg_jump _⟩, trivial⟩,
  ⟨⟨zs_iload_n (k := 3) rfl (by decide +kernel), zg_iload _⟩, ⟨zs_bipush (n := 8) (by decide +kernel) (by decide), zg_push _⟩, ⟨zs_cgt (off := 22) (q := 31) (by decide +kernel) rfl (by decide), zg_cgt _⟩, ⟨zs_ldc2 (i := 343) wd_968 (by decide +kernel), zg_push _⟩, ⟨zs_lload_n (k := 1) rfl (by decide +kernel), zg_lload _⟩, ⟨zs_lmul (by decide +kernel), zg_lbin _⟩, ⟨zs_aload_n (k := 0) rfl (by decide +kernel), zg_aload _⟩, ⟨zs_iload_n (k := 3) rfl (by decide +kernel), zg_iload _⟩, ⟨zs_callV (ci := 7) (C := RX7) (T := TX7) (N := 11) (n := 1) rfl mk_148 rfl ⟨rfl, rfl⟩ ck_148 wd_938 wd_940 wd_23 rfl (by decide +kernel), zg_callV _ _ _ _⟩, trivial⟩,
  ⟨⟨zs_i2l (by decide +kernel), zg_i2l⟩, ⟨zs_ladd (by decide +kernel), zg_lbin _⟩, ⟨zs_lstore_n (k := 1) rfl (by decide +kernel), zg_lstore _⟩, ⟨zs_iinc (n := 1) (by decide +kernel) (by decide), zg_iinc _ _⟩, ⟨zs_goto (off := (-22)) (q := 6) (by decide +kernel) rfl (by decide), zg_jump _⟩, trivial⟩,
  ⟨⟨zs_iconst (n := 0) (by decide +kernel) (by decide), zg_push _⟩, ⟨zs_istore_n (k := 3) rfl (by decide +kernel), zg_istore _⟩, ⟨zs_jump rfl, zg_jump _⟩, trivial⟩,
  ⟨⟨zs_iload_n (k := 3) rfl (by decide +kernel), zg_iload _⟩, ⟨zs_aload_n (k := 0) rfl (by decide +kernel), zg_aload _⟩, ⟨zs_getR (ci := 7) (k := 3) (C := RX7) (T := TX7) (N := 11) rfl (by decide) rfl wd_284 (by decide +kernel), zg_getR _ _⟩, ⟨zs_getIN (ci := 2) (k := 10) (C := RX2) (T := TX2) (N := 14) rfl (by decide) (Or.inl rfl) wn_164 (by decide +kernel), zg_getI _ _⟩, ⟨zs_cge (off := 42) (q := 83) (by decide +kernel) rfl (by decide), zg_cge _⟩, ⟨zs_iconst (n := 0) (by decide +kernel) (by decide), zg_push _⟩, ⟨zs_istore (by decide +kernel), zg_istore _⟩, ⟨zs_jump rfl, zg_jump _⟩, trivial⟩,
  ⟨⟨zs_iload (by decide +kernel), zg_iload _⟩, ⟨zs_iconst (n := 5) (by decide +kernel) (by decide), zg_push _⟩, ⟨zs_cgt (off := 27) (q := 77) (by decide +kernel) rfl (by decide), zg_cgt _⟩, ⟨zs_ldc2 (i := 343) wd_968 (by decide +kernel), zg_push _⟩, ⟨zs_lload_n (k := 1) rfl (by decide +kernel), zg_lload _⟩, ⟨zs_lmul (by decide +kernel), zg_lbin _⟩, ⟨zs_aload_n (k := 0) rfl (by decide +kernel), zg_aload _⟩, ⟨zs_getR (ci := 7) (k := 3) (C := RX7) (T := TX7) (N := 11) rfl (by decide) rfl wd_284 (by decide +kernel), zg_getR _ _⟩, ⟨zs_iload_n (k := 3) rfl (by decide +kernel), zg_iload _⟩, ⟨zs_iload (by decide +kernel), zg_iload _⟩, ⟨zs_callV (ci := 2) (C := RX2) (T := TX2) (N := 14) (n := 2) rfl mk_39 rfl ⟨rfl, rfl⟩ ck_39 wd_493 wd_494 wd_495 rfl (by decide +kernel), zg_callV _ _ _ _⟩, trivial⟩,
  ⟨⟨zs_i2l (by decide +kernel), zg_i2l⟩, ⟨zs_ladd (by decide +kernel), zg_lbin _⟩, ⟨zs_lstore_n (k := 1) rfl (by decide +kernel), zg_lstore _⟩, ⟨zs_iinc (n := 1) (by decide +kernel) (by decide), zg_iinc _ _⟩, ⟨zs_goto (off := (-27)) (q := 47) (by decide +kernel) rfl (by decide), zg_jump _⟩, trivial⟩,
  ⟨⟨zs_iinc (n := 1) (by decide +kernel) (by decide), zg_iinc _ _⟩, ⟨zs_goto (off := (-47)) (q := 33) (by decide +kernel) rfl (by decide), zg_jump _⟩, trivial⟩,
  ⟨⟨zs_iconst (n := 0) (by decide +kernel) (by decide), zg_push _⟩, ⟨zs_istore_n (k := 3) rfl (by decide +kernel), zg_istore _⟩, ⟨zs_jump rfl, zg_jump _⟩, trivial⟩,
  ⟨⟨zs_iload_n (k := 3) rfl (by decide +kernel), zg_iload _⟩, ⟨zs_iconst (n := 3) (by decide +kernel) (by decide), zg_push _⟩, ⟨zs_cge (off := 25) (q := 112) (by decide +kernel) rfl (by decide), zg_cge _⟩, ⟨zs_ldc2 (i := 343) wd_968 (by decide +kernel), zg_push _⟩, ⟨zs_lload_n (k := 1) rfl (by decide +kernel), zg_lload _⟩, ⟨zs_lmul (by decide +kernel), zg_lbin _⟩, ⟨zs_aload_n (k := 0) rfl (by decide +kernel), zg_aload _⟩, ⟨zs_getR (ci := 7) (k := 3) (C := RX7) (T := TX7) (N := 11) rfl (by decide) rfl wd_284 (by decide +kernel), zg_getR _ _⟩, ⟨zs_iload_n (k := 3) rfl (by decide +kernel), zg_iload _⟩, ⟨zs_callV (ci := 2) (C := RX2) (T := TX2) (N := 14) (n := 1) rfl mk_58 rfl ⟨rfl, rfl⟩ ck_58 wd_634 wd_635 wd_636 rfl (by decide +kernel), zg_callV _ _ _ _⟩, trivial⟩,
  ⟨⟨zs_i2l (by decide +kernel), zg_i2l⟩, ⟨zs_ladd (by decide +kernel), zg_lbin _⟩, ⟨zs_lstore_n (k := 1) rfl (by decide +kernel), zg_lstore _⟩, ⟨zs_iinc (n := 1) (by decide +kernel) (by decide), zg_iinc _ _⟩, ⟨zs_goto (off := (-24)) (q := 85) (by decide +kernel) rfl (by decide), zg_jump _⟩, trivial⟩,
  ⟨⟨zs_aload_n (k := 0) rfl (by decide +kernel), zg_aload _⟩, ⟨zs_getR (ci := 7) (k := 1) (C := RX7) (T := TX7) (N := 11) rfl (by decide) rfl wd_282 (by decide +kernel), zg_getR _ _⟩, ⟨zs_aload_n (k := 0) rfl (by decide +kernel), zg_aload _⟩, ⟨zs_getR (ci := 7) (k := 0) (C := RX7) (T := TX7) (N := 11) rfl (by decide) rfl wd_281 (by decide +kernel), zg_getR _ _⟩, ⟨zs_lload_n (k := 1) rfl (by decide +kernel), zg_lload _⟩, ⟨zs_callV (ci := 6) (C := RX6) (T := TX6) (N := 2) (n := 1) rfl mk_23 rfl ⟨rfl, rfl⟩ ck_23 wd_969 wd_970 wd_971 rfl (by decide +kernel), zg_callV _ _ _ _⟩, trivial⟩,
  ⟨⟨zs_callV (ci := 6) (C := RX6) (T := TX6) (N := 2) (n := 1) rfl mk_23 rfl ⟨rfl, rfl⟩ ck_23 wd_969 wd_970 wd_971 rfl (by decide +kernel), zg_callV _ _ _ _⟩, trivial⟩,
  ⟨⟨zs_lret (by decide +kernel) rfl, zg_lret⟩, trivial⟩, trivial⟩
-- NeverTogether.found(I)I
def tb_141 : List zz_B := [[(1, zi_iload 1), (1, zi_push (.int 1)), (3, zi_clt 1), (1, zi_iload 1), (1, zi_push (.int 5)), (3, zi_cgt 1), (1, zi_aload 0), (3, zi_getR 7 8), (1, zi_iload 1), (1, zi_dup2), (1, zi_iald), (1, zi_push (.int 1)), (1, zi_ibin (fun x y => x + y)), (1, zi_iast), (1, zi_aload 0), (1, zi_iload 1), (3, zi_putI 7 9), (0, zi_jump 1)],
  [(2, zi_push (.int (-3))), (1, zi_iret)]]
def pc_141 : List Nat := [0, 25]
set_option maxRecDepth 20000 in
theorem sa_141 : zz_SA zz_mt RX7 yX7_found cX7_found (some .int) 2 pc_141 pc_141 tb_141 := ⟨⟨⟨zs_iload_n (k := 1) rfl (by decide +kernel), zg_iload _⟩, ⟨zs_iconst (n := 1) (by decide +kernel) (by decide), zg_push _⟩, ⟨zs_clt (off := 23) (q := 25) (by decide +kernel) rfl (by decide), zg_clt _⟩, ⟨zs_iload_n (k := 1) rfl (by decide +kernel), zg_iload _⟩, ⟨zs_iconst (n := 5) (by decide +kernel) (by decide), zg_push _⟩, ⟨zs_cgt (off := 18) (q := 25) (by decide +kernel) rfl (by decide), zg_cgt _⟩, ⟨zs_aload_n (k := 0) rfl (by decide +kernel), zg_aload _⟩, ⟨zs_getR (ci := 7) (k := 8) (C := RX7) (T := TX7) (N := 11) rfl (by decide) rfl wd_289 (by decide +kernel), zg_getR _ _⟩, ⟨zs_iload_n (k := 1) rfl (by decide +kernel), zg_iload _⟩, ⟨zs_dup2 (by decide +kernel), zg_dup2⟩, ⟨zs_iald (by decide +kernel), zg_iald⟩, ⟨zs_iconst (n := 1) (by decide +kernel) (by decide), zg_push _⟩, ⟨zs_iadd (by decide +kernel), zg_ibin _⟩, ⟨zs_iast (by decide +kernel), zg_iast⟩, ⟨zs_aload_n (k := 0) rfl (by decide +kernel), zg_aload _⟩, ⟨zs_iload_n (k := 1) rfl (by decide +kernel), zg_iload _⟩, ⟨zs_putI (ci := 7) (k := 9) (C := RX7) (T := TX7) (N := 11) rfl (by decide) rfl rfl wd_290 (by decide +kernel), zg_putI _ _⟩, ⟨zs_jump rfl, zg_jump _⟩, trivial⟩,
  ⟨⟨zs_bipush (n := (-3)) (by decide +kernel) (by decide), zg_push _⟩, ⟨zs_iret (by decide +kernel) rfl, zg_iret⟩, trivial⟩, trivial⟩
-- NeverTogether.refusalOfShelf(LNeverTogether$Shelf;I)I
def tb_142 : List zz_B := [[(1, zi_aload 1), (1, zi_iload 2), (3, zi_callV 6 11 2 1)],
  [(3, zi_zne 2), (1, zi_push (.int (-1))), (1, zi_iret)],
  [(1, zi_aload 1), (1, zi_iload 2), (3, zi_callV 6 12 2 3)],
  [(3, zi_zeq 4), (1, zi_push (.int 0)), (3, zi_jump 5)],
  [(1, zi_aload 0), (1, zi_push (.int 1)), (3, zi_callV 7 141 2 5)],
  [(1, zi_iret)]]
def pc_142 : List Nat := [0, 5, 10, 15, 22, 27]
set_option maxRecDepth 20000 in
theorem sa_142 : zz_SA zz_mt RX7 yX7_refusalOfShelf cX7_refusalOfShelf (some .int) 3 pc_142 pc_142 tb_142 := ⟨⟨⟨zs_aload_n (k := 1) rfl (by decide +kernel), zg_aload _⟩, ⟨zs_iload_n (k := 2) rfl (by decide +kernel), zg_iload _⟩, ⟨zs_callV (ci := 6) (C := RX6) (T := TX6) (N := 2) (n := 1) rfl mk_11 rfl ⟨rfl, rfl⟩ ck_11 wd_319 wd_320 wd_321 rfl (by decide +kernel), zg_callV _ _ _ _⟩, trivial⟩,
  ⟨⟨zs_zne (off := 5) (q := 10) (by decide +kernel) rfl (by decide), zg_zne _⟩, ⟨zs_iconst (n := (-1)) (by decide +kernel) (by decide), zg_push _⟩, ⟨zs_iret (by decide +kernel) rfl, zg_iret⟩, trivial⟩,
  ⟨⟨zs_aload_n (k := 1) rfl (by decide +kernel), zg_aload _⟩, ⟨zs_iload_n (k := 2) rfl (by decide +kernel), zg_iload _⟩, ⟨zs_callV (ci := 6) (C := RX6) (T := TX6) (N := 2) (n := 1) rfl mk_12 rfl ⟨rfl, rfl⟩ ck_12 wd_344 wd_345 wd_346 rfl (by decide +kernel), zg_callV _ _ _ _⟩, trivial⟩,
  ⟨⟨zs_zeq (off := 7) (q := 22) (by decide +kernel) rfl (by decide), zg_zeq _⟩, ⟨zs_iconst (n := 0) (by decide +kernel) (by decide), zg_push _⟩, ⟨zs_goto (off := 8) (q := 27) (by decide +kernel) rfl (by decide), zg_jump _⟩, trivial⟩,
  ⟨⟨zs_aload_n (k := 0) rfl (by decide +kernel), zg_aload _⟩, ⟨zs_iconst (n := 1) (by decide +kernel) (by decide), zg_push _⟩, ⟨zs_callV (ci := 7) (C := RX7) (T := TX7) (N := 11) (n := 1) rfl mk_141 rfl ⟨rfl, rfl⟩ ck_141 wd_323 wd_325 wd_0 rfl (by decide +kernel), zg_callV _ _ _ _⟩, trivial⟩,
  ⟨⟨zs_iret (by decide +kernel) rfl, zg_iret⟩, trivial⟩, trivial⟩
-- NeverTogether.refusalOfPlace(LNeverTogether$Shelf;II)I
def tb_143 : List zz_B := [[(1, zi_aload 0), (1, zi_aload 1), (1, zi_iload 2), (3, zi_callV 7 142 3 1)],
  [(2, zi_istore 4), (2, zi_iload 4), (3, zi_zeq 2), (2, zi_iload 4), (1, zi_iret)],
  [(1, zi_aload 1), (1, zi_iload 2), (1, zi_iload 3), (3, zi_callV 6 13 3 3)],
  [(3, zi_zeq 4), (1, zi_push (.int 0)), (3, zi_jump 5)],
  [(1, zi_aload 0), (1, zi_push (.int 2)), (3, zi_callV 7 141 2 5)],
  [(1, zi_iret)]]
def pc_143 : List Nat := [0, 6, 16, 22, 29, 34]
set_option maxRecDepth 20000 in
theorem sa_143 : zz_SA zz_mt RX7 yX7_refusalOfPlace cX7_refusalOfPlace (some .int) 5 pc_143 pc_143 tb_143 := ⟨⟨⟨zs_aload_n (k := 0) rfl (by decide +kernel), zg_aload _⟩, ⟨zs_aload_n (k := 1) rfl (by decide +kernel), zg_aload _⟩, ⟨zs_iload_n (k := 2) rfl (by decide +kernel), zg_iload _⟩, ⟨zs_callV (ci := 7) (C := RX7) (T := TX7) (N := 11) (n := 2) rfl mk_142 rfl ⟨rfl, rfl⟩ ck_142 wd_340 wd_342 wd_2 rfl (by decide +kernel), zg_callV _ _ _ _⟩, trivial⟩,
  ⟨⟨zs_istore (by decide +kernel), zg_istore _⟩, ⟨zs_iload (by decide +kernel), zg_iload _⟩, ⟨zs_zeq (off := 6) (q := 16) (by decide +kernel) rfl (by decide), zg_zeq _⟩, ⟨zs_iload (by decide +kernel), zg_iload _⟩, ⟨zs_iret (by decide +kernel) rfl, zg_iret⟩, trivial⟩,
  ⟨⟨zs_aload_n (k := 1) rfl (by decide +kernel), zg_aload _⟩, ⟨zs_iload_n (k := 2) rfl (by decide +kernel), zg_iload _⟩, ⟨zs_iload_n (k := 3) rfl (by decide +kernel), zg_iload _⟩, ⟨zs_callV (ci := 6) (C := RX6) (T := TX6) (N := 2) (n := 2) rfl mk_13 rfl ⟨rfl, rfl⟩ ck_13 wd_348 wd_349 wd_350 rfl (by decide +kernel), zg_callV _ _ _ _⟩, trivial⟩,
  ⟨⟨zs_zeq (off := 7) (q := 29) (by decide +kernel) rfl (by decide), zg_zeq _⟩, ⟨zs_iconst (n := 0) (by decide +kernel) (by decide), zg_push _⟩, ⟨zs_goto (off := 8) (q := 34) (by decide +kernel) rfl (by decide), zg_jump _⟩, trivial⟩,
  ⟨⟨zs_aload_n (k := 0) rfl (by decide +kernel), zg_aload _⟩, ⟨zs_iconst (n := 2) (by decide +kernel) (by decide), zg_push _⟩, ⟨zs_callV (ci := 7) (C := RX7) (T := TX7) (N := 11) (n := 1) rfl mk_141 rfl ⟨rfl, rfl⟩ ck_141 wd_323 wd_325 wd_0 rfl (by decide +kernel), zg_callV _ _ _ _⟩, trivial⟩,
  ⟨⟨zs_iret (by decide +kernel) rfl, zg_iret⟩, trivial⟩, trivial⟩
-- NeverTogether.refusalOfHeard(II)I
def tb_144 : List zz_B := [[(1, zi_aload 0), (3, zi_getR 7 3), (1, zi_iload 1), (3, zi_callV 2 31 2 1)],
  [(3, zi_zne 2), (1, zi_push (.int (-1))), (1, zi_iret)],
  [(1, zi_aload 0), (1, zi_aload 0), (3, zi_getR 7 0), (1, zi_iload 2), (3, zi_callV 7 142 3 3)],
  [(1, zi_istore 3), (1, zi_iload 3), (3, zi_zeq 4), (1, zi_iload 3), (1, zi_iret)],
  [(1, zi_aload 0), (3, zi_getR 7 0), (1, zi_iload 2), (3, zi_callV 6 15 2 5)],
  [(2, zi_istore 4), (2, zi_iload 4), (1, zi_push (.int 2)), (1, zi_idiv (fun x y => x - x / y * y)), (3, zi_zeq 7), (1, zi_aload 0), (1, zi_push (.int 5)), (3, zi_callV 7 141 2 6)],
  [(1, zi_iret)],
  [(1, zi_push (.int 0)), (2, zi_istore 5), (0, zi_jump 8)],
  [(2, zi_iload 5), (1, zi_push (.int 1)), (1, zi_ibin (fun x y => x + y)), (2, zi_iload 4), (3, zi_cge 15), (1, zi_aload 0), (3, zi_getR 7 0), (1, zi_iload 2), (2, zi_iload 5), (3, zi_callV 6 16 3 9)],
  [(2, zi_istore 6), (2, zi_iload 6), (3, zi_zlt 12), (2, zi_iload 6), (2, zi_push (.int 60)), (3, zi_cgt 12), (1, zi_aload 0), (3, zi_getR 7 0), (1, zi_iload 2), (2, zi_iload 5), (1, zi_push (.int 1)), (1, zi_ibin (fun x y => x + y)), (3, zi_callV 6 16 3 10)],
  [(3, zi_callS 150 1 11)],
  [(3, zi_zne 14), (0, zi_jump 12)],
  [(1, zi_aload 0), (1, zi_push (.int 3)), (3, zi_callV 7 141 2 13)],
  [(1, zi_iret)],
  [(3, zi_iinc 5 2), (3, zi_jump 8)],
  [(1, zi_push (.int 0)), (1, zi_iret)]]
def pc_144 : List Nat := [0, 8, 13, 22, 29, 37, 51, 52, 55, 74, 100, 103, 106, 111, 112, 118]
set_option maxRecDepth 20000 in
theorem sa_144 : zz_SA zz_mt RX7 yX7_refusalOfHeard cX7_refusalOfHeard (some .int) 7 pc_144 pc_144 tb_144 := ⟨⟨⟨zs_aload_n (k := 0) rfl (by decide +kernel), zg_aload _⟩, ⟨zs_getR (ci := 7) (k := 3) (C := RX7) (T := TX7) (N := 11) rfl (by decide) rfl wd_284 (by decide +kernel), zg_getR _ _⟩, ⟨zs_iload_n (k := 1) rfl (by decide +kernel), zg_iload _⟩, ⟨zs_callV (ci := 2) (C := RX2) (T := TX2) (N := 14) (n := 1) rfl mk_31 rfl ⟨rfl, rfl⟩ ck_31 wd_492 wd_477 wd_478 rfl (by decide +kernel), zg_callV _ _ _ _⟩, trivial⟩,
  ⟨⟨zs_zne (off := 5) (q := 13) (by decide +kernel) rfl (by decide), zg_zne _⟩, ⟨zs_iconst (n := (-1)) (by decide +kernel) (by decide), zg_push _⟩, ⟨zs_iret (by decide +kernel) rfl, zg_iret⟩, trivial⟩,
  ⟨⟨zs_aload_n (k := 0) rfl (by decide +kernel), zg_aload _⟩, ⟨zs_aload_n (k := 0) rfl (by decide +kernel), zg_aload _⟩, ⟨zs_getR (ci := 7) (k := 0) (C := RX7) (T := TX7) (N := 11) rfl (by decide) rfl wd_281 (by decide +kernel), zg_getR _ _⟩, ⟨zs_iload_n (k := 2) rfl (by decide +kernel), zg_iload _⟩, ⟨zs_callV (ci := 7) (C := RX7) (T := TX7) (N := 11) (n := 2) rfl mk_142 rfl ⟨rfl, rfl⟩ ck_142 wd_340 wd_342 wd_2 rfl (by decide +kernel), zg_callV _ _ _ _⟩, trivial⟩,
  ⟨⟨zs_istore_n (k := 3) rfl (by decide +kernel), zg_istore _⟩, ⟨zs_iload_n (k := 3) rfl (by decide +kernel), zg_iload _⟩, ⟨zs_zeq (off := 5) (q := 29) (by decide +kernel) rfl (by decide), zg_zeq _⟩, ⟨zs_iload_n (k := 3) rfl (by decide +kernel), zg_iload _⟩, ⟨zs_iret (by decide +kernel) rfl, zg_iret⟩, trivial⟩,
  ⟨⟨zs_aload_n (k := 0) rfl (by decide +kernel), zg_aload _⟩, ⟨zs_getR (ci := 7) (k := 0) (C := RX7) (T := TX7) (N := 11) rfl (by decide) rfl wd_281 (by decide +kernel), zg_getR _ _⟩, ⟨zs_iload_n (k := 2) rfl (by decide +kernel), zg_iload _⟩, ⟨zs_callV (ci := 6) (C := RX6) (T := TX6) (N := 2) (n := 1) rfl mk_15 rfl ⟨rfl, rfl⟩ ck_15 wd_394 wd_395 wd_396 rfl (by decide +kernel), zg_callV _ _ _ _⟩, trivial⟩,
  ⟨⟨zs_istore (by decide +kernel), zg_istore _⟩, ⟨zs_iload (by decide +kernel), zg_iload _⟩, ⟨zs_iconst (n := 2) (by decide +kernel) (by decide), zg_push _⟩, ⟨zs_irem (by decide +kernel), zg_idiv _⟩, ⟨zs_zeq (off := 9) (q := 52) (by decide +kernel) rfl (by decide), zg_zeq _⟩, ⟨zs_aload_n (k := 0) rfl (by decide +kernel), zg_aload _⟩, ⟨zs_iconst (n := 5) (by decide +kernel) (by decide), zg_push _⟩, ⟨zs_callV (ci := 7) (C := RX7) (T := TX7) (N := 11) (n := 1) rfl mk_141 rfl ⟨rfl, rfl⟩ ck_141 wd_323 wd_325 wd_0 rfl (by decide +kernel), zg_callV _ _ _ _⟩, trivial⟩,
  ⟨⟨zs_iret (by decide +kernel) rfl, zg_iret⟩, trivial⟩,
  ⟨⟨zs_iconst (n := 0) (by decide +kernel) (by decide), zg_push _⟩, ⟨zs_istore (by decide +kernel), zg_istore _⟩, ⟨zs_jump rfl, zg_jump _⟩, trivial⟩,
  ⟨⟨zs_iload (by decide +kernel), zg_iload _⟩, ⟨zs_iconst (n := 1) (by decide +kernel) (by decide), zg_push _⟩, ⟨zs_iadd (by decide +kernel), zg_ibin _⟩, ⟨zs_iload (by decide +kernel), zg_iload _⟩, ⟨zs_cge (off := 57) (q := 118) (by decide +kernel) rfl (by decide), zg_cge _⟩, ⟨zs_aload_n (k := 0) rfl (by decide +kernel), zg_aload _⟩, ⟨zs_getR (ci := 7) (k := 0) (C := RX7) (T := TX7) (N := 11) rfl (by decide) rfl wd_281 (by decide +kernel), zg_getR _ _⟩, ⟨zs_iload_n (k := 2) rfl (by decide +kernel), zg_iload _⟩, ⟨zs_iload (by decide +kernel), zg_iload _⟩, ⟨zs_callV (ci := 6) (C := RX6) (T := TX6) (N := 2) (n := 2) rfl mk_16 rfl ⟨rfl, rfl⟩ ck_16 wd_361 wd_362 wd_363 rfl (by decide +kernel), zg_callV _ _ _ _⟩, trivial⟩,
  ⟨⟨zs_istore (by decide +kernel), zg_istore _⟩, ⟨zs_iload (by decide +kernel), zg_iload _⟩, ⟨zs_zlt (off := 28) (q := 106) (by decide +kernel) rfl (by decide), zg_zlt _⟩, ⟨zs_iload (by decide +kernel), zg_iload _⟩, ⟨zs_bipush (n := 60) (by decide +kernel) (by decide), zg_push _⟩, ⟨zs_cgt (off := 21) (q := 106) (by decide +kernel) rfl (by decide), zg_cgt _⟩, ⟨zs_aload_n (k := 0) rfl (by decide +kernel), zg_aload _⟩, ⟨zs_getR (ci := 7) (k := 0) (C := RX7) (T := TX7) (N := 11) rfl (by decide) rfl wd_281 (by decide +kernel), zg_getR _ _⟩, ⟨zs_iload_n (k := 2) rfl (by decide +kernel), zg_iload _⟩, ⟨zs_iload (by decide +kernel), zg_iload _⟩, ⟨zs_iconst (n := 1) (by decide +kernel) (by decide), zg_push _⟩, ⟨zs_iadd (by decide +kernel), zg_ibin _⟩, ⟨zs_callV (ci := 6) (C := RX6) (T := TX6) (N := 2) (n := 2) rfl mk_16 rfl ⟨rfl, rfl⟩ ck_16 wd_361 wd_362 wd_363 rfl (by decide +kernel), zg_callV _ _ _ _⟩, trivial⟩,
  ⟨⟨zs_callS (n := 1) mk_150 ⟨rfl, rfl⟩ ck_150 wd_716 wd_717 wd_69 rfl (by decide +kernel), zg_callS _ _ _⟩, trivial⟩,
  ⟨⟨zs_zne (off := 9) (q := 112) (by decide +kernel) rfl (by decide), zg_zne _⟩, ⟨zs_jump rfl, zg_jump _⟩, trivial⟩,
  ⟨⟨zs_aload_n (k := 0) rfl (by decide +kernel), zg_aload _⟩, ⟨zs_iconst (n := 3) (by decide +kernel) (by decide), zg_push _⟩, ⟨zs_callV (ci := 7) (C := RX7) (T := TX7) (N := 11) (n := 1) rfl mk_141 rfl ⟨rfl, rfl⟩ ck_141 wd_323 wd_325 wd_0 rfl (by decide +kernel), zg_callV _ _ _ _⟩, trivial⟩,
  ⟨⟨zs_iret (by decide +kernel) rfl, zg_iret⟩, trivial⟩,
  ⟨⟨zs_iinc (n := 2) (by decide +kernel) (by decide), zg_iinc _ _⟩, ⟨zs_goto (off := (-60)) (q := 55) (by decide +kernel) rfl (by decide), zg_jump _⟩, trivial⟩,
  ⟨⟨zs_iconst (n := 0) (by decide +kernel) (by decide), zg_push _⟩, ⟨zs_iret (by decide +kernel) rfl, zg_iret⟩, trivial⟩, trivial⟩
-- NeverTogether.agrees(IIII)Z
def tb_145 : List zz_B := [[(1, zi_aload 0), (3, zi_getR 7 0), (1, zi_iload 1), (3, zi_callV 6 15 2 1)],
  [(2, zi_istore 5), (1, zi_push (.int 0)), (2, zi_istore 6), (0, zi_jump 2)],
  [(2, zi_iload 6), (1, zi_push (.int 1)), (1, zi_ibin (fun x y => x + y)), (2, zi_iload 5), (3, zi_cge 9), (1, zi_aload 0), (3, zi_getR 7 0), (1, zi_iload 1), (2, zi_iload 6), (3, zi_callV 6 16 3 3)],
  [(2, zi_istore 7), (1, zi_iload 3), (2, zi_iload 4), (2, zi_iload 7), (1, zi_aload 0), (3, zi_getR 7 3), (2, zi_iload 7), (3, zi_callV 2 43 2 4)],
  [(3, zi_callS 156 4 5)],
  [(2, zi_istore 8), (1, zi_iload 2), (2, zi_iload 8), (1, zi_ibin (fun x y => x + y)), (3, zi_callS 153 1 6)],
  [(1, zi_aload 0), (3, zi_getR 7 0), (1, zi_iload 1), (2, zi_iload 6), (1, zi_push (.int 1)), (1, zi_ibin (fun x y => x + y)), (3, zi_callV 6 16 3 7)],
  [(3, zi_ceq 8), (1, zi_push (.int 0)), (1, zi_zret)],
  [(3, zi_iinc 6 2), (3, zi_jump 2)],
  [(1, zi_push (.int 1)), (1, zi_zret)]]
def pc_145 : List Nat := [0, 8, 13, 32, 48, 51, 60, 72, 77, 83]
set_option maxRecDepth 20000 in
theorem sa_145 : zz_SA zz_mt RX7 yX7_agrees cX7_agrees (some .boolean) 9 pc_145 pc_145 tb_145 := ⟨⟨⟨zs_aload_n (k := 0) rfl (by decide +kernel), zg_aload _⟩, ⟨zs_getR (ci := 7) (k := 0) (C := RX7) (T := TX7) (N := 11) rfl (by decide) rfl wd_281 (by decide +kernel), zg_getR _ _⟩, ⟨zs_iload_n (k := 1) rfl (by decide +kernel), zg_iload _⟩, ⟨zs_callV (ci := 6) (C := RX6) (T := TX6) (N := 2) (n := 1) rfl mk_15 rfl ⟨rfl, rfl⟩ ck_15 wd_394 wd_395 wd_396 rfl (by decide +kernel), zg_callV _ _ _ _⟩, trivial⟩,
  ⟨⟨zs_istore (by decide +kernel), zg_istore _⟩, ⟨zs_iconst (n := 0) (by decide +kernel) (by decide), zg_push _⟩, ⟨zs_istore (by decide +kernel), zg_istore _⟩, ⟨zs_jump rfl, zg_jump _⟩, trivial⟩,
  ⟨⟨zs_iload (by decide +kernel), zg_iload _⟩, ⟨zs_iconst (n := 1) (by decide +kernel) (by decide), zg_push _⟩, ⟨zs_iadd (by decide +kernel), zg_ibin _⟩, ⟨zs_iload (by decide +kernel), zg_iload _⟩, ⟨zs_cge (off := 64) (q := 83) (by decide +kernel) rfl (by decide), zg_cge _⟩, ⟨zs_aload_n (k := 0) rfl (by decide +kernel), zg_aload _⟩, ⟨zs_getR (ci := 7) (k := 0) (C := RX7) (T := TX7) (N := 11) rfl (by decide) rfl wd_281 (by decide +kernel), zg_getR _ _⟩, ⟨zs_iload_n (k := 1) rfl (by decide +kernel), zg_iload _⟩, ⟨zs_iload (by decide +kernel), zg_iload _⟩, ⟨zs_callV (ci := 6) (C := RX6) (T := TX6) (N := 2) (n := 2) rfl mk_16 rfl ⟨rfl, rfl⟩ ck_16 wd_361 wd_362 wd_363 rfl (by decide +kernel), zg_callV _ _ _ _⟩, trivial⟩,
  ⟨⟨zs_istore (by decide +kernel), zg_istore _⟩, ⟨zs_iload_n (k := 3) rfl (by decide +kernel), zg_iload _⟩, ⟨zs_iload (by decide +kernel), zg_iload _⟩, ⟨zs_iload (by decide +kernel), zg_iload _⟩, ⟨zs_aload_n (k := 0) rfl (by decide +kernel), zg_aload _⟩, ⟨zs_getR (ci := 7) (k := 3) (C := RX7) (T := TX7) (N := 11) rfl (by decide) rfl wd_284 (by decide +kernel), zg_getR _ _⟩, ⟨zs_iload (by decide +kernel), zg_iload _⟩, ⟨zs_callV (ci := 2) (C := RX2) (T := TX2) (N := 14) (n := 1) rfl mk_43 rfl ⟨rfl, rfl⟩ ck_43 wd_650 wd_651 wd_652 rfl (by decide +kernel), zg_callV _ _ _ _⟩, trivial⟩,
  ⟨⟨zs_callS (n := 4) mk_156 ⟨rfl, rfl⟩ ck_156 wd_837 wd_481 wd_69 rfl (by decide +kernel), zg_callS _ _ _⟩, trivial⟩,
  ⟨⟨zs_istore (by decide +kernel), zg_istore _⟩, ⟨zs_iload_n (k := 2) rfl (by decide +kernel), zg_iload _⟩, ⟨zs_iload (by decide +kernel), zg_iload _⟩, ⟨zs_iadd (by decide +kernel), zg_ibin _⟩, ⟨zs_callS (n := 1) mk_153 ⟨rfl, rfl⟩ ck_153 wd_823 wd_486 wd_69 rfl (by decide +kernel), zg_callS _ _ _⟩, trivial⟩,
  ⟨⟨zs_aload_n (k := 0) rfl (by decide +kernel), zg_aload _⟩, ⟨zs_getR (ci := 7) (k := 0) (C := RX7) (T := TX7) (N := 11) rfl (by decide) rfl wd_281 (by decide +kernel), zg_getR _ _⟩, ⟨zs_iload_n (k := 1) rfl (by decide +kernel), zg_iload _⟩, ⟨zs_iload (by decide +kernel), zg_iload _⟩, ⟨zs_iconst (n := 1) (by decide +kernel) (by decide), zg_push _⟩, ⟨zs_iadd (by decide +kernel), zg_ibin _⟩, ⟨zs_callV (ci := 6) (C := RX6) (T := TX6) (N := 2) (n := 2) rfl mk_16 rfl ⟨rfl, rfl⟩ ck_16 wd_361 wd_362 wd_363 rfl (by decide +kernel), zg_callV _ _ _ _⟩, trivial⟩,
  ⟨⟨zs_ceq (off := 5) (q := 77) (by decide +kernel) rfl (by decide), zg_ceq _⟩, ⟨zs_iconst (n := 0) (by decide +kernel) (by decide), zg_push _⟩, ⟨zs_zret (by decide +kernel) rfl, zg_zret⟩, trivial⟩,
  ⟨⟨zs_iinc (n := 2) (by decide +kernel) (by decide), zg_iinc _ _⟩, ⟨zs_goto (off := (-67)) (q := 13) (by decide +kernel) rfl (by decide), zg_jump _⟩, trivial⟩,
  ⟨⟨zs_iconst (n := 1) (by decide +kernel) (by decide), zg_push _⟩, ⟨zs_zret (by decide +kernel) rfl, zg_zret⟩, trivial⟩, trivial⟩
-- NeverTogether.lateOnes(I)I
def tb_146 : List zz_B := [[(1, zi_push (.int 0)), (1, zi_istore 2), (1, zi_push (.int 1)), (1, zi_istore 3), (1, zi_push (.int 0)), (2, zi_istore 4), (0, zi_jump 1)],
  [(2, zi_iload 4), (1, zi_aload 0), (3, zi_getR 7 3), (3, zi_getI 2 10), (3, zi_cge 7), (1, zi_aload 0), (3, zi_getR 7 0), (1, zi_iload 1), (2, zi_iload 4), (3, zi_callV 6 16 3 2)],
  [(1, zi_aload 0), (3, zi_getR 7 3), (2, zi_iload 4), (1, zi_push (.int 0)), (1, zi_push (.int 0)), (3, zi_callV 2 44 4 3)],
  [(1, zi_ibin (fun x y => x - y)), (3, zi_callS 153 1 4)],
  [(2, zi_istore 5), (2, zi_iload 5), (3, zi_zeq 5), (1, zi_iload 2), (1, zi_push (.int 1)), (2, zi_iload 4), (1, zi_ibin (fun x y => x <<< (y &&& 31))), (1, zi_ibin (fun x y => x ||| y)), (1, zi_istore 2), (0, zi_jump 5)],
  [(2, zi_iload 5), (1, zi_push (.int 5)), (3, zi_cle 6), (2, zi_iload 5), (2, zi_push (.int 55)), (3, zi_cge 6), (1, zi_push (.int 0)), (1, zi_istore 3), (0, zi_jump 6)],
  [(3, zi_iinc 4 1), (3, zi_jump 1)],
  [(1, zi_aload 0), (1, zi_iload 3), (3, zi_putI 7 10), (1, zi_iload 2), (1, zi_iret)]]
def pc_146 : List Nat := [0, 7, 29, 40, 44, 58, 73, 79]
set_option maxRecDepth 20000 in
theorem sa_146 : zz_SA zz_mt RX7 yX7_lateOnes cX7_lateOnes (some .int) 6 pc_146 pc_146 tb_146 := ⟨⟨⟨zs_iconst (n := 0) (by decide +kernel) (by decide), zg_push _⟩, ⟨zs_istore_n (k := 2) rfl (by decide +kernel), zg_istore _⟩, ⟨zs_iconst (n := 1) (by decide +kernel) (by decide), zg_push _⟩, ⟨zs_istore_n (k := 3) rfl (by decide +kernel), zg_istore _⟩, ⟨zs_iconst (n := 0) (by decide +kernel) (by decide), zg_push _⟩, ⟨zs_istore (by decide +kernel), zg_istore _⟩, ⟨zs_jump rfl, zg_jump _⟩, trivial⟩,
  ⟨⟨zs_iload (by decide +kernel), zg_iload _⟩, ⟨zs_aload_n (k := 0) rfl (by decide +kernel), zg_aload _⟩, ⟨zs_getR (ci := 7) (k := 3) (C := RX7) (T := TX7) (N := 11) rfl (by decide) rfl wd_284 (by decide +kernel), zg_getR _ _⟩, ⟨zs_getIN (ci := 2) (k := 10) (C := RX2) (T := TX2) (N := 14) rfl (by decide) (Or.inl rfl) wn_164 (by decide +kernel), zg_getI _ _⟩, ⟨zs_cge (off := 63) (q := 79) (by decide +kernel) rfl (by decide), zg_cge _⟩, ⟨zs_aload_n (k := 0) rfl (by decide +kernel), zg_aload _⟩, ⟨zs_getR (ci := 7) (k := 0) (C := RX7) (T := TX7) (N := 11) rfl (by decide) rfl wd_281 (by decide +kernel), zg_getR _ _⟩, ⟨zs_iload_n (k := 1) rfl (by decide +kernel), zg_iload _⟩, ⟨zs_iload (by decide +kernel), zg_iload _⟩, ⟨zs_callV (ci := 6) (C := RX6) (T := TX6) (N := 2) (n := 2) rfl mk_16 rfl ⟨rfl, rfl⟩ ck_16 wd_361 wd_362 wd_363 rfl (by decide +kernel), zg_callV _ _ _ _⟩, trivial⟩,
  ⟨⟨zs_aload_n (k := 0) rfl (by decide +kernel), zg_aload _⟩, ⟨zs_getR (ci := 7) (k := 3) (C := RX7) (T := TX7) (N := 11) rfl (by decide) rfl wd_284 (by decide +kernel), zg_getR _ _⟩, ⟨zs_iload (by decide +kernel), zg_iload _⟩, ⟨zs_iconst (n := 0) (by decide +kernel) (by decide), zg_push _⟩, ⟨zs_iconst (n := 0) (by decide +kernel) (by decide), zg_push _⟩, ⟨zs_callV (ci := 2) (C := RX2) (T := TX2) (N := 14) (n := 3) rfl mk_44 rfl ⟨rfl, rfl⟩ ck_44 wd_616 wd_473 wd_474 rfl (by decide +kernel), zg_callV _ _ _ _⟩, trivial⟩,
  ⟨⟨zs_isub (by decide +kernel), zg_ibin _⟩, ⟨zs_callS (n := 1) mk_153 ⟨rfl, rfl⟩ ck_153 wd_823 wd_486 wd_69 rfl (by decide +kernel), zg_callS _ _ _⟩, trivial⟩,
  ⟨⟨zs_istore (by decide +kernel), zg_istore _⟩, ⟨zs_iload (by decide +kernel), zg_iload _⟩, ⟨zs_zeq (off := 10) (q := 58) (by decide +kernel) rfl (by decide), zg_zeq _⟩, ⟨zs_iload_n (k := 2) rfl (by decide +kernel), zg_iload _⟩, ⟨zs_iconst (n := 1) (by decide +kernel) (by decide), zg_push _⟩, ⟨zs_iload (by decide +kernel), zg_iload _⟩, ⟨zs_ishl (by decide +kernel), zg_ibin _⟩, ⟨zs_ior (by decide +kernel), zg_ibin _⟩, ⟨zs_istore_n (k := 2) rfl (by decide +kernel), zg_istore _⟩, ⟨zs_jump rfl, zg_jump _⟩, trivial⟩,
  ⟨⟨zs_iload (by decide +kernel), zg_iload _⟩, ⟨zs_iconst (n := 5) (by decide +kernel) (by decide), zg_push _⟩, ⟨zs_cle (off := 12) (q := 73) (by decide +kernel) rfl (by decide), zg_cle _⟩, ⟨zs_iload (by decide +kernel), zg_iload _⟩, ⟨zs_bipush (n := 55) (by decide +kernel) (by decide), zg_push _⟩, ⟨zs_cge (off := 5) (q := 73) (by decide +kernel) rfl (by decide), zg_cge _⟩, ⟨zs_iconst (n := 0) (by decide +kernel) (by decide), zg_push _⟩, ⟨zs_istore_n (k := 3) rfl (by decide +kernel), zg_istore _⟩, ⟨zs_jump rfl, zg_jump _⟩, trivial⟩,
  ⟨⟨zs_iinc (n := 1) (by decide +kernel) (by decide), zg_iinc _ _⟩, ⟨zs_goto (off := (-69)) (q := 7) (by decide +kernel) rfl (by decide), zg_jump _⟩, trivial⟩,
  ⟨⟨zs_aload_n (k := 0) rfl (by decide +kernel), zg_aload _⟩, ⟨zs_iload_n (k := 3) rfl (by decide +kernel), zg_iload _⟩, ⟨zs_putI (ci := 7) (k := 10) (C := RX7) (T := TX7) (N := 11) rfl (by decide) rfl rfl wd_291 (by decide +kernel), zg_putI _ _⟩, ⟨zs_iload_n (k := 2) rfl (by decide +kernel), zg_iload _⟩, ⟨zs_iret (by decide +kernel) rfl, zg_iret⟩, trivial⟩, trivial⟩
-- NeverTogether.pairsNow()I
def tb_147 : List zz_B := [[(1, zi_aload 0), (3, zi_getR 7 4), (1, zi_aload 0), (3, zi_getR 7 3), (1, zi_push (.int 0)), (1, zi_push (.int 0)), (3, zi_callV 4 62 4 1)],
  [(1, zi_aload 0), (3, zi_getR 7 4), (3, zi_callV 4 68 1 2)],
  [(1, zi_iret)]]
def pc_147 : List Nat := [0, 13, 20]
set_option maxRecDepth 20000 in
theorem sa_147 : zz_SA zz_mt RX7 yX7_pairsNow cX7_pairsNow (some .int) 1 pc_147 pc_147 tb_147 := ⟨⟨⟨zs_aload_n (k := 0) rfl (by decide +kernel), zg_aload _⟩, ⟨zs_getR (ci := 7) (k := 4) (C := RX7) (T := TX7) (N := 11) rfl (by decide) rfl wd_285 (by decide +kernel), zg_getR _ _⟩, ⟨zs_aload_n (k := 0) rfl (by decide +kernel), zg_aload _⟩, ⟨zs_getR (ci := 7) (k := 3) (C := RX7) (T := TX7) (N := 11) rfl (by decide) rfl wd_284 (by decide +kernel), zg_getR _ _⟩, ⟨zs_iconst (n := 0) (by decide +kernel) (by decide), zg_push _⟩, ⟨zs_iconst (n := 0) (by decide +kernel) (by decide), zg_push _⟩, ⟨zs_callV (ci := 4) (C := RX4) (T := TX4) (N := 2) (n := 3) rfl mk_62 rfl ⟨rfl, rfl⟩ ck_62 wd_550 wd_551 wd_552 rfl (by decide +kernel), zg_callV _ _ _ _⟩, trivial⟩,
  ⟨⟨zs_aload_n (k := 0) rfl (by decide +kernel), zg_aload _⟩, ⟨zs_getR (ci := 7) (k := 4) (C := RX7) (T := TX7) (N := 11) rfl (by decide) rfl wd_285 (by decide +kernel), zg_getR _ _⟩, ⟨zs_callV (ci := 4) (C := RX4) (T := TX4) (N := 2) (n := 0) rfl mk_68 rfl ⟨rfl, rfl⟩ ck_68 wd_602 wd_603 wd_604 rfl (by decide +kernel), zg_callV _ _ _ _⟩, trivial⟩,
  ⟨⟨zs_iret (by decide +kernel) rfl, zg_iret⟩, trivial⟩, trivial⟩
-- NeverTogether.tally(I)I
def tb_148 : List zz_B := [[(1, zi_iload 1), (47, zi_tab 0 [1, 2, 3, 4, 6, 8, 10, 12] 14)],
  [(1, zi_aload 0), (3, zi_getR 7 3), (3, zi_getI 2 10), (1, zi_iret)],
  [(1, zi_aload 0), (3, zi_getR 7 3), (3, zi_getI 2 11), (1, zi_iret)],
  [(1, zi_aload 0), (3, zi_getR 7 3), (3, zi_getI 2 13), (1, zi_iret)],
  [(1, zi_aload 0), (3, zi_callV 7 147 1 5)],
  [(1, zi_iret)],
  [(1, zi_aload 0), (3, zi_getR 7 3), (1, zi_push (.int 1)), (3, zi_callV 2 40 2 7)],
  [(1, zi_iret)],
  [(1, zi_aload 0), (3, zi_getR 7 3), (1, zi_push (.int 2)), (3, zi_callV 2 40 2 9)],
  [(1, zi_iret)],
  [(1, zi_aload 0), (3, zi_getR 7 0), (3, zi_callV 6 22 1 11)],
  [(1, zi_iret)],
  [(1, zi_aload 0), (3, zi_getR 7 1), (3, zi_callV 6 22 1 13)],
  [(1, zi_iret)],
  [(1, zi_aload 0), (3, zi_getR 7 3), (3, zi_callV 2 59 1 15)],
  [(1, zi_iret)]]
def pc_148 : List Nat := [0, 48, 56, 64, 72, 76, 77, 85, 86, 94, 95, 102, 103, 110, 111, 118]
set_option maxRecDepth 20000 in
theorem sa_148 : zz_SA zz_mt RX7 yX7_tally cX7_tally (some .int) 2 pc_148 pc_148 tb_148 := ⟨⟨⟨zs_iload_n (k := 1) rfl (by decide +kernel), zg_iload _⟩, ⟨zs_tab (dflt := 110) (lo := 0) (up := 7) (offs := #[47, 55, 63, 71, 76, 85, 94, 102]) (len := 47) (q0 := 111) (by decide +kernel) rfl (by decide) (by decide) (zz_tabs_ok (by decide +kernel)), zg_tab _ _ _⟩, trivial⟩,
  ⟨⟨zs_aload_n (k := 0) rfl (by decide +kernel), zg_aload _⟩, ⟨zs_getR (ci := 7) (k := 3) (C := RX7) (T := TX7) (N := 11) rfl (by decide) rfl wd_284 (by decide +kernel), zg_getR _ _⟩, ⟨zs_getIN (ci := 2) (k := 10) (C := RX2) (T := TX2) (N := 14) rfl (by decide) (Or.inl rfl) wn_164 (by decide +kernel), zg_getI _ _⟩, ⟨zs_iret (by decide +kernel) rfl, zg_iret⟩, trivial⟩,
  ⟨⟨zs_aload_n (k := 0) rfl (by decide +kernel), zg_aload _⟩, ⟨zs_getR (ci := 7) (k := 3) (C := RX7) (T := TX7) (N := 11) rfl (by decide) rfl wd_284 (by decide +kernel), zg_getR _ _⟩, ⟨zs_getIN (ci := 2) (k := 11) (C := RX2) (T := TX2) (N := 14) rfl (by decide) (Or.inl rfl) wn_166 (by decide +kernel), zg_getI _ _⟩, ⟨zs_iret (by decide +kernel) rfl, zg_iret⟩, trivial⟩,
  ⟨⟨zs_aload_n (k := 0) rfl (by decide +kernel), zg_aload _⟩, ⟨zs_getR (ci := 7) (k := 3) (C := RX7) (T := TX7) (N := 11) rfl (by decide) rfl wd_284 (by decide +kernel), zg_getR _ _⟩, ⟨zs_getIN (ci := 2) (k := 13) (C := RX2) (T := TX2) (N := 14) rfl (by decide) (Or.inl rfl) wn_168 (by decide +kernel), zg_getI _ _⟩, ⟨zs_iret (by decide +kernel) rfl, zg_iret⟩, trivial⟩,
  ⟨⟨zs_aload_n (k := 0) rfl (by decide +kernel), zg_aload _⟩, ⟨zs_callV (ci := 7) (C := RX7) (T := TX7) (N := 11) (n := 0) rfl mk_147 rfl ⟨rfl, rfl⟩ ck_147 wd_598 wd_600 wd_11 rfl (by decide +kernel), zg_callV _ _ _ _⟩, trivial⟩,
  ⟨⟨zs_iret (by decide +kernel) rfl, zg_iret⟩, trivial⟩,
  ⟨⟨zs_aload_n (k := 0) rfl (by decide +kernel), zg_aload _⟩, ⟨zs_getR (ci := 7) (k := 3) (C := RX7) (T := TX7) (N := 11) rfl (by decide) rfl wd_284 (by decide +kernel), zg_getR _ _⟩, ⟨zs_iconst (n := 1) (by decide +kernel) (by decide), zg_push _⟩, ⟨zs_callV (ci := 2) (C := RX2) (T := TX2) (N := 14) (n := 1) rfl mk_40 rfl ⟨rfl, rfl⟩ ck_40 wd_942 wd_943 wd_944 rfl (by decide +kernel), zg_callV _ _ _ _⟩, trivial⟩,
  ⟨⟨zs_iret (by decide +kernel) rfl, zg_iret⟩, trivial⟩,
  ⟨⟨zs_aload_n (k := 0) rfl (by decide +kernel), zg_aload _⟩, ⟨zs_getR (ci := 7) (k := 3) (C := RX7) (T := TX7) (N := 11) rfl (by decide) rfl wd_284 (by decide +kernel), zg_getR _ _⟩, ⟨zs_iconst (n := 2) (by decide +kernel) (by decide), zg_push _⟩, ⟨zs_callV (ci := 2) (C := RX2) (T := TX2) (N := 14) (n := 1) rfl mk_40 rfl ⟨rfl, rfl⟩ ck_40 wd_942 wd_943 wd_944 rfl (by decide +kernel), zg_callV _ _ _ _⟩, trivial⟩,
  ⟨⟨zs_iret (by decide +kernel) rfl, zg_iret⟩, trivial⟩,
  ⟨⟨zs_aload_n (k := 0) rfl (by decide +kernel), zg_aload _⟩, ⟨zs_getR (ci := 7) (k := 0) (C := RX7) (T := TX7) (N := 11) rfl (by decide) rfl wd_281 (by decide +kernel), zg_getR _ _⟩, ⟨zs_callV (ci := 6) (C := RX6) (T := TX6) (N := 2) (n := 0) rfl mk_22 rfl ⟨rfl, rfl⟩ ck_22 wd_947 wd_948 wd_949 rfl (by decide +kernel), zg_callV _ _ _ _⟩, trivial⟩,
  ⟨⟨zs_iret (by decide +kernel) rfl, zg_iret⟩, trivial⟩,
  ⟨⟨zs_aload_n (k := 0) rfl (by decide +kernel), zg_aload _⟩, ⟨zs_getR (ci := 7) (k := 1) (C := RX7) (T := TX7) (N := 11) rfl (by decide) rfl wd_282 (by decide +kernel), zg_getR _ _⟩, ⟨zs_callV (ci := 6) (C := RX6) (T := TX6) (N := 2) (n := 0) rfl mk_22 rfl ⟨rfl, rfl⟩ ck_22 wd_947 wd_948 wd_949 rfl (by decide +kernel), zg_callV _ _ _ _⟩, trivial⟩,
  ⟨⟨zs_iret (by decide +kernel) rfl, zg_iret⟩, trivial⟩,
  ⟨⟨zs_aload_n (k := 0) rfl (by decide +kernel), zg_aload _⟩, ⟨zs_getR (ci := 7) (k := 3) (C := RX7) (T := TX7) (N := 11) rfl (by decide) rfl wd_284 (by decide +kernel), zg_getR _ _⟩, ⟨zs_callV (ci := 2) (C := RX2) (T := TX2) (N := 14) (n := 0) rfl mk_59 rfl ⟨rfl, rfl⟩ ck_59 wd_951 wd_952 wd_953 rfl (by decide +kernel), zg_callV _ _ _ _⟩, trivial⟩,
  ⟨⟨zs_iret (by decide +kernel) rfl, zg_iret⟩, trivial⟩, trivial⟩
-- NeverTogether.isFuture(I)Z
def tb_149 : List zz_B := [[(1, zi_iload 0), (3, zi_zlt 1), (1, zi_iload 0), (3, zi_push (.int 420)), (3, zi_cgt 1), (1, zi_push (.int 1)), (3, zi_jump 2)],
  [(1, zi_push (.int 0)), (0, zi_jump 2)],
  [(1, zi_zret)]]
def pc_149 : List Nat := [0, 15, 16]
set_option maxRecDepth 20000 in
theorem sa_149 : zz_SA zz_mt RX7 yX7_isFuture cX7_isFuture (some .boolean) 1 pc_149 pc_149 tb_149 := ⟨⟨⟨zs_iload_n (k := 0) rfl (by decide +kernel), zg_iload _⟩, ⟨zs_zlt (off := 14) (q := 15) (by decide +kernel) rfl (by decide), zg_zlt _⟩, ⟨zs_iload_n (k := 0) rfl (by decide +kernel), zg_iload _⟩, ⟨zs_sipush (n := 420) (by decide +kernel) (by decide), zg_push _⟩, ⟨zs_cgt (off := 7) (q := 15) (by decide +kernel) rfl (by decide), zg_cgt _⟩, ⟨zs_iconst (n := 1) (by decide +kernel) (by decide), zg_push _⟩, ⟨zs_goto (off := 4) (q := 16) (by decide +kernel) rfl (by decide), zg_jump _⟩, trivial⟩,
  ⟨⟨zs_iconst (n := 0) (by decide +kernel) (by decide), zg_push _⟩, ⟨zs_jump rfl, zg_jump _⟩, trivial⟩,
  ⟨⟨zs_zret (by decide +kernel) rfl, zg_zret⟩, trivial⟩, trivial⟩
-- NeverTogether.isMinute(I)Z
def tb_150 : List zz_B := [[(1, zi_iload 0), (3, zi_zlt 1), (1, zi_iload 0), (2, zi_push (.int 60)), (3, zi_cge 1), (1, zi_push (.int 1)), (3, zi_jump 2)],
  [(1, zi_push (.int 0)), (0, zi_jump 2)],
  [(1, zi_zret)]]
def pc_150 : List Nat := [0, 14, 15]
set_option maxRecDepth 20000 in
theorem sa_150 : zz_SA zz_mt RX7 yX7_isMinute cX7_isMinute (some .boolean) 1 pc_150 pc_150 tb_150 := ⟨⟨⟨zs_iload_n (k := 0) rfl (by decide +kernel), zg_iload _⟩, ⟨zs_zlt (off := 13) (q := 14) (by decide +kernel) rfl (by decide), zg_zlt _⟩, ⟨zs_iload_n (k := 0) rfl (by decide +kernel), zg_iload _⟩, ⟨zs_bipush (n := 60) (by decide +kernel) (by decide), zg_push _⟩, ⟨zs_cge (off := 7) (q := 14) (by decide +kernel) rfl (by decide), zg_cge _⟩, ⟨zs_iconst (n := 1) (by decide +kernel) (by decide), zg_push _⟩, ⟨zs_goto (off := 4) (q := 15) (by decide +kernel) rfl (by decide), zg_jump _⟩, trivial⟩,
  ⟨⟨zs_iconst (n := 0) (by decide +kernel) (by decide), zg_push _⟩, ⟨zs_jump rfl, zg_jump _⟩, trivial⟩,
  ⟨⟨zs_zret (by decide +kernel) rfl, zg_zret⟩, trivial⟩, trivial⟩
-- NeverTogether.isDraught(I)Z
def tb_151 : List zz_B := [[(1, zi_iload 0), (3, zi_zlt 1), (1, zi_iload 0), (2, zi_push (.int 12)), (3, zi_cgt 1), (1, zi_push (.int 1)), (3, zi_jump 2)],
  [(1, zi_push (.int 0)), (0, zi_jump 2)],
  [(1, zi_zret)]]
def pc_151 : List Nat := [0, 14, 15]
set_option maxRecDepth 20000 in
theorem sa_151 : zz_SA zz_mt RX7 yX7_isDraught cX7_isDraught (some .boolean) 1 pc_151 pc_151 tb_151 := ⟨⟨⟨zs_iload_n (k := 0) rfl (by decide +kernel), zg_iload _⟩, ⟨zs_zlt (off := 13) (q := 14) (by decide +kernel) rfl (by decide), zg_zlt _⟩, ⟨zs_iload_n (k := 0) rfl (by decide +kernel), zg_iload _⟩, ⟨zs_bipush (n := 12) (by decide +kernel) (by decide), zg_push _⟩, ⟨zs_cgt (off := 7) (q := 14) (by decide +kernel) rfl (by decide), zg_cgt _⟩, ⟨zs_iconst (n := 1) (by decide +kernel) (by decide), zg_push _⟩, ⟨zs_goto (off := 4) (q := 15) (by decide +kernel) rfl (by decide), zg_jump _⟩, trivial⟩,
  ⟨⟨zs_iconst (n := 0) (by decide +kernel) (by decide), zg_push _⟩, ⟨zs_jump rfl, zg_jump _⟩, trivial⟩,
  ⟨⟨zs_zret (by decide +kernel) rfl, zg_zret⟩, trivial⟩, trivial⟩
-- NeverTogether.isKind(I)Z
def tb_152 : List zz_B := [[(1, zi_iload 0), (3, zi_zlt 1), (1, zi_iload 0), (2, zi_push (.int 6)), (3, zi_cge 1), (1, zi_push (.int 1)), (3, zi_jump 2)],
  [(1, zi_push (.int 0)), (0, zi_jump 2)],
  [(1, zi_zret)]]
def pc_152 : List Nat := [0, 14, 15]
set_option maxRecDepth 20000 in
theorem sa_152 : zz_SA zz_mt RX7 yX7_isKind cX7_isKind (some .boolean) 1 pc_152 pc_152 tb_152 := ⟨⟨⟨zs_iload_n (k := 0) rfl (by decide +kernel), zg_iload _⟩, ⟨zs_zlt (off := 13) (q := 14) (by decide +kernel) rfl (by decide), zg_zlt _⟩, ⟨zs_iload_n (k := 0) rfl (by decide +kernel), zg_iload _⟩, ⟨zs_bipush (n := 6) (by decide +kernel) (by decide), zg_push _⟩, ⟨zs_cge (off := 7) (q := 14) (by decide +kernel) rfl (by decide), zg_cge _⟩, ⟨zs_iconst (n := 1) (by decide +kernel) (by decide), zg_push _⟩, ⟨zs_goto (off := 4) (q := 15) (by decide +kernel) rfl (by decide), zg_jump _⟩, trivial⟩,
  ⟨⟨zs_iconst (n := 0) (by decide +kernel) (by decide), zg_push _⟩, ⟨zs_jump rfl, zg_jump _⟩, trivial⟩,
  ⟨⟨zs_zret (by decide +kernel) rfl, zg_zret⟩, trivial⟩, trivial⟩
-- NeverTogether.ring(I)I
def tb_153 : List zz_B := [[(1, zi_iload 0), (2, zi_push (.int 60)), (1, zi_idiv (fun x y => x - x / y * y)), (1, zi_istore 1), (1, zi_iload 1), (3, zi_zge 1), (1, zi_iload 1), (2, zi_push (.int 60)), (1, zi_ibin (fun x y => x + y)), (3, zi_jump 2)],
  [(1, zi_iload 1), (0, zi_jump 2)],
  [(1, zi_iret)]]
def pc_153 : List Nat := [0, 16, 17]
set_option maxRecDepth 20000 in
theorem sa_153 : zz_SA zz_mt RX7 yX7_ring cX7_ring (some .int) 2 pc_153 pc_153 tb_153 := ⟨⟨⟨zs_iload_n (k := 0) rfl (by decide +kernel), zg_iload _⟩, ⟨zs_bipush (n := 60) (by decide +kernel) (by decide), zg_push _⟩, ⟨zs_irem (by decide +kernel), zg_idiv _⟩, ⟨zs_istore_n (k := 1) rfl (by decide +kernel), zg_istore _⟩, ⟨zs_iload_n (k := 1) rfl (by decide +kernel), zg_iload _⟩, ⟨zs_zge (off := 10) (q := 16) (by decide +kernel) rfl (by decide), zg_zge _⟩, ⟨zs_iload_n (k := 1) rfl (by decide +kernel), zg_iload _⟩, ⟨zs_bipush (n := 60) (by decide +kernel) (by decide), zg_push _⟩, ⟨zs_iadd (by decide +kernel), zg_ibin _⟩, ⟨zs_goto (off := 4) (q := 17) (by decide +kernel) rfl (by decide), zg_jump _⟩, trivial⟩,
  ⟨⟨zs_iload_n (k := 1) rfl (by decide +kernel), zg_iload _⟩, ⟨zs_jump rfl, zg_jump _⟩, trivial⟩,
  ⟨⟨zs_iret (by decide +kernel) rfl, zg_iret⟩, trivial⟩, trivial⟩
-- NeverTogether.run(II)J
def tb_154 : List zz_B := [[(1, zi_push (.long 1)), (1, zi_iload 1), (1, zi_lsh (fun x y => x <<< (y.toInt64 &&& 63))), (1, zi_push (.long 1)), (1, zi_lbin (fun x y => x - y)), (1, zi_iload 0), (3, zi_callS 155 2 1)],
  [(1, zi_lret)]]
def pc_154 : List Nat := [0, 9]
set_option maxRecDepth 20000 in
theorem sa_154 : zz_SA zz_mt RX7 yX7_run cX7_run (some .long) 2 pc_154 pc_154 tb_154 := ⟨⟨⟨zs_lconst (n := 1) (by decide +kernel) (by decide), zg_push _⟩, ⟨zs_iload_n (k := 1) rfl (by decide +kernel), zg_iload _⟩, ⟨zs_lshl (by decide +kernel), zg_lsh _⟩, ⟨zs_lconst (n := 1) (by decide +kernel) (by decide), zg_push _⟩, ⟨zs_lsub (by decide +kernel), zg_lbin _⟩, ⟨zs_iload_n (k := 0) rfl (by decide +kernel), zg_iload _⟩, ⟨zs_callS (n := 2) mk_155 ⟨rfl, rfl⟩ ck_155 wd_561 wd_562 wd_69 rfl (by decide +kernel), zg_callS _ _ _⟩, trivial⟩,
  ⟨⟨zs_lret (by decide +kernel) rfl, zg_lret⟩, trivial⟩, trivial⟩
-- NeverTogether.turned(JI)J
def tb_155 : List zz_B := [[(1, zi_lload 0), (1, zi_iload 2), (1, zi_lsh (fun x y => x <<< (y.toInt64 &&& 63))), (1, zi_lload 0), (2, zi_push (.int 60)), (1, zi_iload 2), (1, zi_ibin (fun x y => x - y)), (1, zi_lsh (fun x y => (x.toUInt64 >>> (y.toInt64.toUInt64 &&& Int64.toUInt64 63)).toInt64)), (1, zi_lbin (fun x y => x ||| y)), (3, zi_push (.long 1152921504606846975)), (1, zi_lbin (fun x y => x &&& y)), (1, zi_lret)]]
def pc_155 : List Nat := [0]
set_option maxRecDepth 20000 in
theorem sa_155 : zz_SA zz_mt RX7 yX7_turned cX7_turned (some .long) 3 pc_155 pc_155 tb_155 := ⟨⟨⟨zs_lload_n (k := 0) rfl (by decide +kernel), zg_lload _⟩, ⟨zs_iload_n (k := 2) rfl (by decide +kernel), zg_iload _⟩, ⟨zs_lshl (by decide +kernel), zg_lsh _⟩, ⟨zs_lload_n (k := 0) rfl (by decide +kernel), zg_lload _⟩, ⟨zs_bipush (n := 60) (by decide +kernel) (by decide), zg_push _⟩, ⟨zs_iload_n (k := 2) rfl (by decide +kernel), zg_iload _⟩, ⟨zs_isub (by decide +kernel), zg_ibin _⟩, ⟨zs_lushr (by decide +kernel), zg_lsh _⟩, ⟨zs_lor (by decide +kernel), zg_lbin _⟩, ⟨zs_ldc2 (i := 242) wd_564 (by decide +kernel), zg_push _⟩, ⟨zs_land (by decide +kernel), zg_lbin _⟩, ⟨zs_lret (by decide +kernel) rfl, zg_lret⟩, trivial⟩, trivial⟩
-- NeverTogether.gainOver(IIII)I
def tb_156 : List zz_B := [[(1, zi_iload 0), (1, zi_push (.int 3)), (3, zi_ceq 1), (1, zi_iload 0), (3, zi_zlt 1), (1, zi_iload 0), (2, zi_push (.int 6)), (3, zi_clt 2), (0, zi_jump 1)],
  [(1, zi_push (.int 0)), (1, zi_iret)],
  [(1, zi_iload 2), (1, zi_iload 1), (1, zi_ibin (fun x y => x * y)), (3, zi_push (.ref 1002)), (1, zi_iload 0), (1, zi_iald), (1, zi_iload 3), (1, zi_ibin (fun x y => x * y)), (1, zi_ibin (fun x y => x + y)), (1, zi_iret)]]
def pc_156 : List Nat := [0, 15, 17]
set_option maxRecDepth 20000 in
theorem sa_156 : zz_SA zz_mt RX7 yX7_gainOver cX7_gainOver (some .int) 4 pc_156 pc_156 tb_156 := ⟨⟨⟨zs_iload_n (k := 0) rfl (by decide +kernel), zg_iload _⟩, ⟨zs_iconst (n := 3) (by decide +kernel) (by decide), zg_push _⟩, ⟨zs_ceq (off := 13) (q := 15) (by decide +kernel) rfl (by decide), zg_ceq _⟩, ⟨zs_iload_n (k := 0) rfl (by decide +kernel), zg_iload _⟩, ⟨zs_zlt (off := 9) (q := 15) (by decide +kernel) rfl (by decide), zg_zlt _⟩, ⟨zs_iload_n (k := 0) rfl (by decide +kernel), zg_iload _⟩, ⟨zs_bipush (n := 6) (by decide +kernel) (by decide), zg_push _⟩, ⟨zs_clt (off := 5) (q := 17) (by decide +kernel) rfl (by decide), zg_clt _⟩, ⟨zs_jump rfl, zg_jump _⟩, trivial⟩,
  ⟨⟨zs_iconst (n := 0) (by decide +kernel) (by decide), zg_push _⟩, ⟨zs_iret (by decide +kernel) rfl, zg_iret⟩, trivial⟩,
  ⟨⟨zs_iload_n (k := 2) rfl (by decide +kernel), zg_iload _⟩, ⟨zs_iload_n (k := 1) rfl (by decide +kernel), zg_iload _⟩, ⟨zs_imul (by decide +kernel), zg_ibin _⟩, ⟨zs_gets (j := 2) (by decide) wd_483 (by decide +kernel), zg_push _⟩, ⟨zs_iload_n (k := 0) rfl (by decide +kernel), zg_iload _⟩, ⟨zs_iald (by decide +kernel), zg_iald⟩, ⟨zs_iload_n (k := 3) rfl (by decide +kernel), zg_iload _⟩, ⟨zs_imul (by decide +kernel), zg_ibin _⟩, ⟨zs_iadd (by decide +kernel), zg_ibin _⟩, ⟨zs_iret (by decide +kernel) rfl, zg_iret⟩, trivial⟩, trivial⟩
