/-! blocks of methods, and that they are what stands in the class file: printed by program -/
-- NeverTogether.row(II)I
def tb_95 : List zz_B := [[(1, zi_aload 0), (3, zi_getR 7 0), (1, zi_iload 1), (3, zi_callV 6 11 2 1)],
  [(3, zi_zeq 2), (1, zi_iload 2), (2, zi_push (.int 40)), (3, zi_cle 3), (0, zi_jump 2)],
  [(1, zi_push (.int (-1))), (1, zi_iret)],
  [(1, zi_iload 2), (3, zi_zge 5), (1, zi_aload 0), (1, zi_push (.int 5)), (3, zi_callV 7 141 2 4)],
  [(1, zi_iret)],
  [(1, zi_aload 0), (3, zi_getR 7 0), (1, zi_iload 1), (1, zi_iload 2), (1, zi_push (.int 0)), (3, zi_callV 6 18 4 6)],
  [(1, zi_iload 2), (1, zi_iret)]]
def pc_95 : List Nat := [0, 8, 17, 19, 28, 29, 39]
set_option maxRecDepth 20000 in
theorem sa_95 : zz_SA zz_mt RX7 yX7_row cX7_row (some .int) 3 pc_95 pc_95 tb_95 := ⟨⟨⟨zs_aload_n (k := 0) rfl (by decide +kernel), zg_aload _⟩, ⟨zs_getR (ci := 7) (k := 0) (C := RX7) (T := TX7) (N := 11) rfl (by decide) rfl wd_281 (by decide +kernel), zg_getR _ _⟩, ⟨zs_iload_n (k := 1) rfl (by decide +kernel), zg_iload _⟩, ⟨zs_callV (ci := 6) (C := RX6) (T := TX6) (N := 2) (n := 1) rfl mk_11 rfl ⟨rfl, rfl⟩ ck_11 wd_319 wd_320 wd_321 rfl (by decide +kernel), zg_callV _ _ _ _⟩, trivial⟩,
  ⟨⟨zs_zeq (off := 9) (q := 17) (by decide +kernel) rfl (by decide), zg_zeq _⟩, ⟨zs_iload_n (k := 2) rfl (by decide +kernel), zg_iload _⟩, ⟨zs_bipush (n := 40) (by decide +kernel) (by decide), zg_push _⟩, ⟨zs_cle (off := 5) (q := 19) (by decide +kernel) rfl (by decide), zg_cle _⟩, ⟨zs_jump rfl, zg_jump _⟩, trivial⟩,
  ⟨⟨zs_iconst (n := (-1)) (by decide +kernel) (by decide), zg_push _⟩, ⟨zs_iret (by decide +kernel) rfl, zg_iret⟩, trivial⟩,
  ⟨⟨zs_iload_n (k := 2) rfl (by decide +kernel), zg_iload _⟩, ⟨zs_zge (off := 9) (q := 29) (by decide +kernel) rfl (by decide), zg_zge _⟩, ⟨zs_aload_n (k := 0) rfl (by decide +kernel), zg_aload _⟩, ⟨zs_iconst (n := 5) (by decide +kernel) (by decide), zg_push _⟩, ⟨zs_callV (ci := 7) (C := RX7) (T := TX7) (N := 11) (n := 1) rfl mk_141 rfl ⟨rfl, rfl⟩ ck_141 wd_323 wd_325 wd_0 rfl (by decide +kernel), zg_callV _ _ _ _⟩, trivial⟩,
  ⟨⟨zs_iret (by decide +kernel) rfl, zg_iret⟩, trivial⟩,
  ⟨⟨zs_aload_n (k := 0) rfl (by decide +kernel), zg_aload _⟩, ⟨zs_getR (ci := 7) (k := 0) (C := RX7) (T := TX7) (N := 11) rfl (by decide) rfl wd_281 (by decide +kernel), zg_getR _ _⟩, ⟨zs_iload_n (k := 1) rfl (by decide +kernel), zg_iload _⟩, ⟨zs_iload_n (k := 2) rfl (by decide +kernel), zg_iload _⟩, ⟨zs_iconst (n := 0) (by decide +kernel) (by decide), zg_push _⟩, ⟨zs_callV (ci := 6) (C := RX6) (T := TX6) (N := 2) (n := 3) rfl mk_18 rfl ⟨rfl, rfl⟩ ck_18 wd_327 wd_328 wd_329 rfl (by decide +kernel), zg_callV _ _ _ _⟩, trivial⟩,
  ⟨⟨zs_iload_n (k := 2) rfl (by decide +kernel), zg_iload _⟩, ⟨zs_iret (by decide +kernel) rfl, zg_iret⟩, trivial⟩, trivial⟩
-- NeverTogether.lay(III)I
def tb_96 : List zz_B := [[(1, zi_aload 0), (1, zi_aload 0), (3, zi_getR 7 0), (1, zi_iload 1), (1, zi_iload 2), (3, zi_callV 7 143 4 1)],
  [(2, zi_istore 4), (2, zi_iload 4), (3, zi_zeq 2), (2, zi_iload 4), (1, zi_iret)],
  [(1, zi_aload 0), (1, zi_aload 0), (3, zi_getR 7 0), (1, zi_iload 1), (1, zi_iload 2), (1, zi_iload 3), (3, zi_callV 6 17 4 3)],
  [(3, zi_putI 7 10), (1, zi_push (.int 1)), (1, zi_iret)]]
def pc_96 : List Nat := [0, 10, 20, 31]
set_option maxRecDepth 20000 in
theorem sa_96 : zz_SA zz_mt RX7 yX7_lay cX7_lay (some .int) 5 pc_96 pc_96 tb_96 := ⟨⟨⟨zs_aload_n (k := 0) rfl (by decide +kernel), zg_aload _⟩, ⟨zs_aload_n (k := 0) rfl (by decide +kernel), zg_aload _⟩, ⟨zs_getR (ci := 7) (k := 0) (C := RX7) (T := TX7) (N := 11) rfl (by decide) rfl wd_281 (by decide +kernel), zg_getR _ _⟩, ⟨zs_iload_n (k := 1) rfl (by decide +kernel), zg_iload _⟩, ⟨zs_iload_n (k := 2) rfl (by decide +kernel), zg_iload _⟩, ⟨zs_callV (ci := 7) (C := RX7) (T := TX7) (N := 11) (n := 3) rfl mk_143 rfl ⟨rfl, rfl⟩ ck_143 wd_336 wd_338 wd_1 rfl (by decide +kernel), zg_callV _ _ _ _⟩, trivial⟩,
  ⟨⟨zs_istore (by decide +kernel), zg_istore _⟩, ⟨zs_iload (by decide +kernel), zg_iload _⟩, ⟨zs_zeq (off := 6) (q := 20) (by decide +kernel) rfl (by decide), zg_zeq _⟩, ⟨zs_iload (by decide +kernel), zg_iload _⟩, ⟨zs_iret (by decide +kernel) rfl, zg_iret⟩, trivial⟩,
  ⟨⟨zs_aload_n (k := 0) rfl (by decide +kernel), zg_aload _⟩, ⟨zs_aload_n (k := 0) rfl (by decide +kernel), zg_aload _⟩, ⟨zs_getR (ci := 7) (k := 0) (C := RX7) (T := TX7) (N := 11) rfl (by decide) rfl wd_281 (by decide +kernel), zg_getR _ _⟩, ⟨zs_iload_n (k := 1) rfl (by decide +kernel), zg_iload _⟩, ⟨zs_iload_n (k := 2) rfl (by decide +kernel), zg_iload _⟩, ⟨zs_iload_n (k := 3) rfl (by decide +kernel), zg_iload _⟩, ⟨zs_callV (ci := 6) (C := RX6) (T := TX6) (N := 2) (n := 3) rfl mk_17 rfl ⟨rfl, rfl⟩ ck_17 wd_352 wd_353 wd_354 rfl (by decide +kernel), zg_callV _ _ _ _⟩, trivial⟩,
  ⟨⟨zs_putI (ci := 7) (k := 10) (C := RX7) (T := TX7) (N := 11) rfl (by decide) rfl rfl wd_291 (by decide +kernel), zg_putI _ _⟩, ⟨zs_iconst (n := 1) (by decide +kernel) (by decide), zg_push _⟩, ⟨zs_iret (by decide +kernel) rfl, zg_iret⟩, trivial⟩, trivial⟩
-- NeverTogether.at(II)I
def tb_97 : List zz_B := [[(1, zi_aload 0), (1, zi_aload 0), (3, zi_getR 7 0), (1, zi_iload 1), (1, zi_iload 2), (3, zi_callV 7 143 4 1)],
  [(1, zi_istore 3), (1, zi_iload 3), (3, zi_zeq 2), (1, zi_iload 3), (1, zi_iret)],
  [(1, zi_aload 0), (1, zi_aload 0), (3, zi_getR 7 0), (1, zi_iload 1), (1, zi_iload 2), (3, zi_callV 6 16 3 3)],
  [(3, zi_putI 7 10), (1, zi_push (.int 1)), (1, zi_iret)]]
def pc_97 : List Nat := [0, 10, 17, 27]
set_option maxRecDepth 20000 in
theorem sa_97 : zz_SA zz_mt RX7 yX7_at cX7_at (some .int) 4 pc_97 pc_97 tb_97 := ⟨⟨⟨zs_aload_n (k := 0) rfl (by decide +kernel), zg_aload _⟩, ⟨zs_aload_n (k := 0) rfl (by decide +kernel), zg_aload _⟩, ⟨zs_getR (ci := 7) (k := 0) (C := RX7) (T := TX7) (N := 11) rfl (by decide) rfl wd_281 (by decide +kernel), zg_getR _ _⟩, ⟨zs_iload_n (k := 1) rfl (by decide +kernel), zg_iload _⟩, ⟨zs_iload_n (k := 2) rfl (by decide +kernel), zg_iload _⟩, ⟨zs_callV (ci := 7) (C := RX7) (T := TX7) (N := 11) (n := 3) rfl mk_143 rfl ⟨rfl, rfl⟩ ck_143 wd_336 wd_338 wd_1 rfl (by decide +kernel), zg_callV _ _ _ _⟩, trivial⟩,
  ⟨⟨zs_istore_n (k := 3) rfl (by decide +kernel), zg_istore _⟩, ⟨zs_iload_n (k := 3) rfl (by decide +kernel), zg_iload _⟩, ⟨zs_zeq (off := 5) (q := 17) (by decide +kernel) rfl (by decide), zg_zeq _⟩, ⟨zs_iload_n (k := 3) rfl (by decide +kernel), zg_iload _⟩, ⟨zs_iret (by decide +kernel) rfl, zg_iret⟩, trivial⟩,
  ⟨⟨zs_aload_n (k := 0) rfl (by decide +kernel), zg_aload _⟩, ⟨zs_aload_n (k := 0) rfl (by decide +kernel), zg_aload _⟩, ⟨zs_getR (ci := 7) (k := 0) (C := RX7) (T := TX7) (N := 11) rfl (by decide) rfl wd_281 (by decide +kernel), zg_getR _ _⟩, ⟨zs_iload_n (k := 1) rfl (by decide +kernel), zg_iload _⟩, ⟨zs_iload_n (k := 2) rfl (by decide +kernel), zg_iload _⟩, ⟨zs_callV (ci := 6) (C := RX6) (T := TX6) (N := 2) (n := 2) rfl mk_16 rfl ⟨rfl, rfl⟩ ck_16 wd_361 wd_362 wd_363 rfl (by decide +kernel), zg_callV _ _ _ _⟩, trivial⟩,
  ⟨⟨zs_putI (ci := 7) (k := 10) (C := RX7) (T := TX7) (N := 11) rfl (by decide) rfl rfl wd_291 (by decide +kernel), zg_putI _ _⟩, ⟨zs_iconst (n := 1) (by decide +kernel) (by decide), zg_push _⟩, ⟨zs_iret (by decide +kernel) rfl, zg_iret⟩, trivial⟩, trivial⟩
-- NeverTogether.tear(I)I
def tb_98 : List zz_B := [[(1, zi_aload 0), (1, zi_aload 0), (3, zi_getR 7 0), (1, zi_iload 1), (3, zi_callV 7 142 3 1)],
  [(1, zi_istore 2), (1, zi_iload 2), (3, zi_zeq 2), (1, zi_iload 2), (1, zi_iret)],
  [(1, zi_aload 0), (3, zi_getR 7 0), (1, zi_iload 1), (3, zi_callV 6 19 2 3)],
  [(1, zi_push (.int 1)), (1, zi_iret)]]
def pc_98 : List Nat := [0, 9, 16, 24]
set_option maxRecDepth 20000 in
theorem sa_98 : zz_SA zz_mt RX7 yX7_tear cX7_tear (some .int) 3 pc_98 pc_98 tb_98 := ⟨⟨⟨zs_aload_n (k := 0) rfl (by decide +kernel), zg_aload _⟩, ⟨zs_aload_n (k := 0) rfl (by decide +kernel), zg_aload _⟩, ⟨zs_getR (ci := 7) (k := 0) (C := RX7) (T := TX7) (N := 11) rfl (by decide) rfl wd_281 (by decide +kernel), zg_getR _ _⟩, ⟨zs_iload_n (k := 1) rfl (by decide +kernel), zg_iload _⟩, ⟨zs_callV (ci := 7) (C := RX7) (T := TX7) (N := 11) (n := 2) rfl mk_142 rfl ⟨rfl, rfl⟩ ck_142 wd_340 wd_342 wd_2 rfl (by decide +kernel), zg_callV _ _ _ _⟩, trivial⟩,
  ⟨⟨zs_istore_n (k := 2) rfl (by decide +kernel), zg_istore _⟩, ⟨zs_iload_n (k := 2) rfl (by decide +kernel), zg_iload _⟩, ⟨zs_zeq (off := 5) (q := 16) (by decide +kernel) rfl (by decide), zg_zeq _⟩, ⟨zs_iload_n (k := 2) rfl (by decide +kernel), zg_iload _⟩, ⟨zs_iret (by decide +kernel) rfl, zg_iret⟩, trivial⟩,
  ⟨⟨zs_aload_n (k := 0) rfl (by decide +kernel), zg_aload _⟩, ⟨zs_getR (ci := 7) (k := 0) (C := RX7) (T := TX7) (N := 11) rfl (by decide) rfl wd_281 (by decide +kernel), zg_getR _ _⟩, ⟨zs_iload_n (k := 1) rfl (by decide +kernel), zg_iload _⟩, ⟨zs_callV (ci := 6) (C := RX6) (T := TX6) (N := 2) (n := 1) rfl mk_19 rfl ⟨rfl, rfl⟩ ck_19 wd_369 wd_370 wd_371 rfl (by decide +kernel), zg_callV _ _ _ _⟩, trivial⟩,
  ⟨⟨zs_iconst (n := 1) (by decide +kernel) (by decide), zg_push _⟩, ⟨zs_iret (by decide +kernel) rfl, zg_iret⟩, trivial⟩, trivial⟩
-- NeverTogether.copy(IIIII)I
def tb_99 : List zz_B := [[(1, zi_aload 0), (3, zi_getR 7 0), (1, zi_iload 1), (3, zi_callV 6 11 2 1)],
  [(3, zi_zeq 3), (1, zi_aload 0), (3, zi_getR 7 0), (1, zi_iload 3), (3, zi_callV 6 11 2 2)],
  [(3, zi_zne 4), (0, zi_jump 3)],
  [(1, zi_push (.int (-1))), (1, zi_iret)],
  [(2, zi_iload 5), (3, zi_zge 6), (1, zi_aload 0), (1, zi_push (.int 5)), (3, zi_callV 7 141 2 5)],
  [(1, zi_iret)],
  [(1, zi_aload 0), (3, zi_getR 7 0), (1, zi_iload 1), (3, zi_callV 6 12 2 7)],
  [(3, zi_zeq 9), (1, zi_aload 0), (3, zi_getR 7 0), (1, zi_iload 3), (3, zi_callV 6 12 2 8)],
  [(3, zi_zne 11), (0, zi_jump 9)],
  [(1, zi_aload 0), (1, zi_push (.int 1)), (3, zi_callV 7 141 2 10)],
  [(1, zi_iret)],
  [(1, zi_aload 0), (3, zi_getR 7 0), (1, zi_iload 1), (1, zi_iload 2), (2, zi_iload 5), (3, zi_callV 6 14 4 12)],
  [(3, zi_zeq 14), (1, zi_aload 0), (3, zi_getR 7 0), (1, zi_iload 3), (2, zi_iload 4), (2, zi_iload 5), (3, zi_callV 6 14 4 13)],
  [(3, zi_zne 16), (0, zi_jump 14)],
  [(1, zi_aload 0), (1, zi_push (.int 2)), (3, zi_callV 7 141 2 15)],
  [(1, zi_iret)],
  [(1, zi_aload 0), (3, zi_getR 7 0), (1, zi_iload 1), (1, zi_iload 2), (1, zi_iload 3), (2, zi_iload 4), (2, zi_iload 5), (3, zi_callV 6 20 6 17)],
  [(1, zi_push (.int 1)), (1, zi_iret)]]
def pc_99 : List Nat := [0, 8, 19, 22, 24, 34, 35, 43, 54, 57, 62, 63, 74, 89, 92, 97, 98, 112]
set_option maxRecDepth 20000 in
theorem sa_99 : zz_SA zz_mt RX7 yX7_copy cX7_copy (some .int) 6 pc_99 pc_99 tb_99 := ⟨⟨⟨zs_aload_n (k := 0) rfl (by decide +kernel), zg_aload _⟩, ⟨zs_getR (ci := 7) (k := 0) (C := RX7) (T := TX7) (N := 11) rfl (by decide) rfl wd_281 (by decide +kernel), zg_getR _ _⟩, ⟨zs_iload_n (k := 1) rfl (by decide +kernel), zg_iload _⟩, ⟨zs_callV (ci := 6) (C := RX6) (T := TX6) (N := 2) (n := 1) rfl mk_11 rfl ⟨rfl, rfl⟩ ck_11 wd_319 wd_320 wd_321 rfl (by decide +kernel), zg_callV _ _ _ _⟩, trivial⟩,
  ⟨⟨zs_zeq (off := 14) (q := 22) (by decide +kernel) rfl (by decide), zg_zeq _⟩, ⟨zs_aload_n (k := 0) rfl (by decide +kernel), zg_aload _⟩, ⟨zs_getR (ci := 7) (k := 0) (C := RX7) (T := TX7) (N := 11) rfl (by decide) rfl wd_281 (by decide +kernel), zg_getR _ _⟩, ⟨zs_iload_n (k := 3) rfl (by decide +kernel), zg_iload _⟩, ⟨zs_callV (ci := 6) (C := RX6) (T := TX6) (N := 2) (n := 1) rfl mk_11 rfl ⟨rfl, rfl⟩ ck_11 wd_319 wd_320 wd_321 rfl (by decide +kernel), zg_callV _ _ _ _⟩, trivial⟩,
  ⟨⟨zs_zne (off := 5) (q := 24) (by decide +kernel) rfl (by decide), zg_zne _⟩, ⟨zs_jump rfl, zg_jump _⟩, trivial⟩,
  ⟨⟨zs_iconst (n := (-1)) (by decide +kernel) (by decide), zg_push _⟩, ⟨zs_iret (by decide +kernel) rfl, zg_iret⟩, trivial⟩,
  ⟨⟨zs_iload (by decide +kernel), zg_iload _⟩, ⟨zs_zge (off := 9) (q := 35) (by decide +kernel) rfl (by decide), zg_zge _⟩, ⟨zs_aload_n (k := 0) rfl (by decide +kernel), zg_aload _⟩, ⟨zs_iconst (n := 5) (by decide +kernel) (by decide), zg_push _⟩, ⟨zs_callV (ci := 7) (C := RX7) (T := TX7) (N := 11) (n := 1) rfl mk_141 rfl ⟨rfl, rfl⟩ ck_141 wd_323 wd_325 wd_0 rfl (by decide +kernel), zg_callV _ _ _ _⟩, trivial⟩,
  ⟨⟨zs_iret (by decide +kernel) rfl, zg_iret⟩, trivial⟩,
  ⟨⟨zs_aload_n (k := 0) rfl (by decide +kernel), zg_aload _⟩, ⟨zs_getR (ci := 7) (k := 0) (C := RX7) (T := TX7) (N := 11) rfl (by decide) rfl wd_281 (by decide +kernel), zg_getR _ _⟩, ⟨zs_iload_n (k := 1) rfl (by decide +kernel), zg_iload _⟩, ⟨zs_callV (ci := 6) (C := RX6) (T := TX6) (N := 2) (n := 1) rfl mk_12 rfl ⟨rfl, rfl⟩ ck_12 wd_344 wd_345 wd_346 rfl (by decide +kernel), zg_callV _ _ _ _⟩, trivial⟩,
  ⟨⟨zs_zeq (off := 14) (q := 57) (by decide +kernel) rfl (by decide), zg_zeq _⟩, ⟨zs_aload_n (k := 0) rfl (by decide +kernel), zg_aload _⟩, ⟨zs_getR (ci := 7) (k := 0) (C := RX7) (T := TX7) (N := 11) rfl (by decide) rfl wd_281 (by decide +kernel), zg_getR _ _⟩, ⟨zs_iload_n (k := 3) rfl (by decide +kernel), zg_iload _⟩, ⟨zs_callV (ci := 6) (C := RX6) (T := TX6) (N := 2) (n := 1) rfl mk_12 rfl ⟨rfl, rfl⟩ ck_12 wd_344 wd_345 wd_346 rfl (by decide +kernel), zg_callV _ _ _ _⟩, trivial⟩,
  ⟨⟨zs_zne (off := 9) (q := 63) (by decide +kernel) rfl (by decide), zg_zne _⟩, ⟨zs_jump rfl, zg_jump _⟩, trivial⟩,
  ⟨⟨zs_aload_n (k := 0) rfl (by decide +kernel), zg_aload _⟩, ⟨zs_iconst (n := 1) (by decide +kernel) (by decide), zg_push _⟩, ⟨zs_callV (ci := 7) (C := RX7) (T := TX7) (N := 11) (n := 1) rfl mk_141 rfl ⟨rfl, rfl⟩ ck_141 wd_323 wd_325 wd_0 rfl (by decide +kernel), zg_callV _ _ _ _⟩, trivial⟩,
  ⟨⟨zs_iret (by decide +kernel) rfl, zg_iret⟩, trivial⟩,
  ⟨⟨zs_aload_n (k := 0) rfl (by decide +kernel), zg_aload _⟩, ⟨zs_getR (ci := 7) (k := 0) (C := RX7) (T := TX7) (N := 11) rfl (by decide) rfl wd_281 (by decide +kernel), zg_getR _ _⟩, ⟨zs_iload_n (k := 1) rfl (by decide +kernel), zg_iload _⟩, ⟨zs_iload_n (k := 2) rfl (by decide +kernel), zg_iload _⟩, ⟨zs_iload (by decide +kernel), zg_iload _⟩, ⟨zs_callV (ci := 6) (C := RX6) (T := TX6) (N := 2) (n := 3) rfl mk_14 rfl ⟨rfl, rfl⟩ ck_14 wd_377 wd_378 wd_379 rfl (by decide +kernel), zg_callV _ _ _ _⟩, trivial⟩,
  ⟨⟨zs_zeq (off := 18) (q := 92) (by decide +kernel) rfl (by decide), zg_zeq _⟩, ⟨zs_aload_n (k := 0) rfl (by decide +kernel), zg_aload _⟩, ⟨zs_getR (ci := 7) (k := 0) (C := RX7) (T := TX7) (N := 11) rfl (by decide) rfl wd_281 (by decide +kernel), zg_getR _ _⟩, ⟨zs_iload_n (k := 3) rfl (by decide +kernel), zg_iload _⟩, ⟨zs_iload (by decide +kernel), zg_iload _⟩, ⟨zs_iload (by decide +kernel), zg_iload _⟩, ⟨zs_callV (ci := 6) (C := RX6) (T := TX6) (N := 2) (n := 3) rfl mk_14 rfl ⟨rfl, rfl⟩ ck_14 wd_377 wd_378 wd_379 rfl (by decide +kernel), zg_callV _ _ _ _⟩, trivial⟩,
  ⟨⟨zs_zne (off := 9) (q := 98) (by decide +kernel) rfl (by decide), zg_zne _⟩, ⟨zs_jump rfl, zg_jump _⟩, trivial⟩,
  ⟨⟨zs_aload_n (k := 0) rfl (by decide +kernel), zg_aload _⟩, ⟨zs_iconst (n := 2) (by decide +kernel) (by decide), zg_push _⟩, ⟨zs_callV (ci := 7) (C := RX7) (T := TX7) (N := 11) (n := 1) rfl mk_141 rfl ⟨rfl, rfl⟩ ck_141 wd_323 wd_325 wd_0 rfl (by decide +kernel), zg_callV _ _ _ _⟩, trivial⟩,
  ⟨⟨zs_iret (by decide +kernel) rfl, zg_iret⟩, trivial⟩,
  ⟨⟨zs_aload_n (k := 0) rfl (by decide +kernel), zg_aload _⟩, ⟨zs_getR (ci := 7) (k := 0) (C := RX7) (T := TX7) (N := 11) rfl (by decide) rfl wd_281 (by decide +kernel), zg_getR _ _⟩, ⟨zs_iload_n (k := 1) rfl (by decide +kernel), zg_iload _⟩, ⟨zs_iload_n (k := 2) rfl (by decide +kernel), zg_iload _⟩, ⟨zs_iload_n (k := 3) rfl (by decide +kernel), zg_iload _⟩, ⟨zs_iload (by decide +kernel), zg_iload _⟩, ⟨zs_iload (by decide +kernel), zg_iload _⟩, ⟨zs_callV (ci := 6) (C := RX6) (T := TX6) (N := 2) (n := 5) rfl mk_20 rfl ⟨rfl, rfl⟩ ck_20 wd_382 wd_383 wd_384 rfl (by decide +kernel), zg_callV _ _ _ _⟩, trivial⟩,
  ⟨⟨zs_iconst (n := 1) (by decide +kernel) (by decide), zg_push _⟩, ⟨zs_iret (by decide +kernel) rfl, zg_iret⟩, trivial⟩, trivial⟩
-- NeverTogether.mean(I)I
def tb_100 : List zz_B := [[(1, zi_aload 0), (1, zi_aload 0), (3, zi_getR 7 0), (1, zi_iload 1), (3, zi_callV 7 142 3 1)],
  [(1, zi_istore 2), (1, zi_iload 2), (3, zi_zeq 2), (1, zi_iload 2), (1, zi_iret)],
  [(1, zi_aload 0), (3, zi_getR 7 0), (1, zi_iload 1), (3, zi_callV 6 15 2 3)],
  [(1, zi_istore 3), (1, zi_iload 3), (3, zi_zgt 5), (1, zi_aload 0), (1, zi_push (.int 4)), (3, zi_callV 7 141 2 4)],
  [(1, zi_iret)],
  [(1, zi_aload 0), (1, zi_aload 0), (3, zi_getR 7 0), (1, zi_iload 1), (3, zi_callV 6 21 2 6)],
  [(1, zi_iload 3), (1, zi_i2l), (1, zi_ldiv (fun x y => x / y)), (1, zi_l2i), (3, zi_putI 7 10), (1, zi_push (.int 1)), (1, zi_iret)]]
def pc_100 : List Nat := [0, 9, 16, 24, 34, 35, 44]
set_option maxRecDepth 20000 in
theorem sa_100 : zz_SA zz_mt RX7 yX7_mean cX7_mean (some .int) 4 pc_100 pc_100 tb_100 := ⟨⟨⟨zs_aload_n (k := 0) rfl (by decide +kernel), zg_aload _⟩, ⟨zs_aload_n (k := 0) rfl (by decide +kernel), zg_aload _⟩, ⟨zs_getR (ci := 7) (k := 0) (C := RX7) (T := TX7) (N := 11) rfl (by decide) rfl wd_281 (by decide +kernel), zg_getR _ _⟩, ⟨zs_iload_n (k := 1) rfl (by decide +kernel), zg_iload _⟩, ⟨zs_callV (ci := 7) (C := RX7) (T := TX7) (N := 11) (n := 2) rfl mk_142 rfl ⟨rfl, rfl⟩ ck_142 wd_340 wd_342 wd_2 rfl (by decide +kernel), zg_callV _ _ _ _⟩, trivial⟩,
  ⟨⟨zs_istore_n (k := 2) rfl (by decide +kernel), zg_istore _⟩, ⟨zs_iload_n (k := 2) rfl (by decide +kernel), zg_iload _⟩, ⟨zs_zeq (off := 5) (q := 16) (by decide +kernel) rfl (by decide), zg_zeq _⟩, ⟨zs_iload_n (k := 2) rfl (by decide +kernel), zg_iload _⟩, ⟨zs_iret (by decide +kernel) rfl, zg_iret⟩, trivial⟩,
  ⟨⟨zs_aload_n (k := 0) rfl (by decide +kernel), zg_aload _⟩, ⟨zs_getR (ci := 7) (k := 0) (C := RX7) (T := TX7) (N := 11) rfl (by decide) rfl wd_281 (by decide +kernel), zg_getR _ _⟩, ⟨zs_iload_n (k := 1) rfl (by decide +kernel), zg_iload _⟩, ⟨zs_callV (ci := 6) (C := RX6) (T := TX6) (N := 2) (n := 1) rfl mk_15 rfl ⟨rfl, rfl⟩ ck_15 wd_394 wd_395 wd_396 rfl (by decide +kernel), zg_callV _ _ _ _⟩, trivial⟩,
  ⟨⟨zs_istore_n (k := 3) rfl (by decide +kernel), zg_istore _⟩, ⟨zs_iload_n (k := 3) rfl (by decide +kernel), zg_iload _⟩, ⟨zs_zgt (off := 9) (q := 35) (by decide +kernel) rfl (by decide), zg_zgt _⟩, ⟨zs_aload_n (k := 0) rfl (by decide +kernel), zg_aload _⟩, ⟨zs_iconst (n := 4) (by decide +kernel) (by decide), zg_push _⟩, ⟨zs_callV (ci := 7) (C := RX7) (T := TX7) (N := 11) (n := 1) rfl mk_141 rfl ⟨rfl, rfl⟩ ck_141 wd_323 wd_325 wd_0 rfl (by decide +kernel), zg_callV _ _ _ _⟩, trivial⟩,
  ⟨⟨zs_iret (by decide +kernel) rfl, zg_iret⟩, trivial⟩,
  ⟨⟨zs_aload_n (k := 0) rfl (by decide +kernel), zg_aload _⟩, ⟨zs_aload_n (k := 0) rfl (by decide +kernel), zg_aload _⟩, ⟨zs_getR (ci := 7) (k := 0) (C := RX7) (T := TX7) (N := 11) rfl (by decide) rfl wd_281 (by decide +kernel), zg_getR _ _⟩, ⟨zs_iload_n (k := 1) rfl (by decide +kernel), zg_iload _⟩, ⟨zs_callV (ci := 6) (C := RX6) (T := TX6) (N := 2) (n := 1) rfl mk_21 rfl ⟨rfl, rfl⟩ ck_21 wd_398 wd_399 wd_400 rfl (by decide +kernel), zg_callV _ _ _ _⟩, trivial⟩,
  ⟨⟨zs_iload_n (k := 3) rfl (by decide +kernel), zg_iload _⟩, ⟨zs_i2l (by decide +kernel), zg_i2l⟩, ⟨zs_ldiv (by decide +kernel), zg_ldiv _⟩, ⟨zs_l2i (by decide +kernel), zg_l2i⟩, ⟨zs_putI (ci := 7) (k := 10) (C := RX7) (T := TX7) (N := 11) rfl (by decide) rfl rfl wd_291 (by decide +kernel), zg_putI _ _⟩, ⟨zs_iconst (n := 1) (by decide +kernel) (by decide), zg_push _⟩, ⟨zs_iret (by decide +kernel) rfl, zg_iret⟩, trivial⟩, trivial⟩
-- NeverTogether.text(II)I
def tb_101 : List zz_B := [[(1, zi_aload 0), (3, zi_getR 7 1), (1, zi_iload 1), (3, zi_callV 6 11 2 1)],
  [(3, zi_zeq 2), (1, zi_iload 2), (2, zi_push (.int 60)), (3, zi_cle 3), (0, zi_jump 2)],
  [(1, zi_push (.int (-1))), (1, zi_iret)],
  [(1, zi_iload 2), (3, zi_zge 5), (1, zi_aload 0), (1, zi_push (.int 5)), (3, zi_callV 7 141 2 4)],
  [(1, zi_iret)],
  [(1, zi_aload 0), (3, zi_getR 7 1), (1, zi_iload 1), (1, zi_iload 2), (2, zi_push (.int 32)), (3, zi_callV 6 18 4 6)],
  [(1, zi_iload 2), (1, zi_iret)]]
def pc_101 : List Nat := [0, 8, 17, 19, 28, 29, 40]
set_option maxRecDepth 20000 in
theorem sa_101 : zz_SA zz_mt RX7 yX7_text cX7_text (some .int) 3 pc_101 pc_101 tb_101 := ⟨⟨⟨zs_aload_n (k := 0) rfl (by decide +kernel), zg_aload _⟩, ⟨zs_getR (ci := 7) (k := 1) (C := RX7) (T := TX7) (N := 11) rfl (by decide) rfl wd_282 (by decide +kernel), zg_getR _ _⟩, ⟨zs_iload_n (k := 1) rfl (by decide +kernel), zg_iload _⟩, ⟨zs_callV (ci := 6) (C := RX6) (T := TX6) (N := 2) (n := 1) rfl mk_11 rfl ⟨rfl, rfl⟩ ck_11 wd_319 wd_320 wd_321 rfl (by decide +kernel), zg_callV _ _ _ _⟩, trivial⟩,
  ⟨⟨zs_zeq (off := 9) (q := 17) (by decide +kernel) rfl (by decide), zg_zeq _⟩, ⟨zs_iload_n (k := 2) rfl (by decide +kernel), zg_iload _⟩, ⟨zs_bipush (n := 60) (by decide +kernel) (by decide), zg_push _⟩, ⟨zs_cle (off := 5) (q := 19) (by decide +kernel) rfl (by decide), zg_cle _⟩, ⟨zs_jump rfl, zg_jump _⟩, trivial⟩,
  ⟨⟨zs_iconst (n := (-1)) (by decide +kernel) (by decide), zg_push _⟩, ⟨zs_iret (by decide +kernel) rfl, zg_iret⟩, trivial⟩,
  ⟨⟨zs_iload_n (k := 2) rfl (by decide +kernel), zg_iload _⟩, ⟨zs_zge (off := 9) (q := 29) (by decide +kernel) rfl (by decide), zg_zge _⟩, ⟨zs_aload_n (k := 0) rfl (by decide +kernel), zg_aload _⟩, ⟨zs_iconst (n := 5) (by decide +kernel) (by decide), zg_push _⟩, ⟨zs_callV (ci := 7) (C := RX7) (T := TX7) (N := 11) (n := 1) rfl mk_141 rfl ⟨rfl, rfl⟩ ck_141 wd_323 wd_325 wd_0 rfl (by decide +kernel), zg_callV _ _ _ _⟩, trivial⟩,
  ⟨⟨zs_iret (by decide +kernel) rfl, zg_iret⟩, trivial⟩,
  ⟨⟨zs_aload_n (k := 0) rfl (by decide +kernel), zg_aload _⟩, ⟨zs_getR (ci := 7) (k := 1) (C := RX7) (T := TX7) (N := 11) rfl (by decide) rfl wd_282 (by decide +kernel), zg_getR _ _⟩, ⟨zs_iload_n (k := 1) rfl (by decide +kernel), zg_iload _⟩, ⟨zs_iload_n (k := 2) rfl (by decide +kernel), zg_iload _⟩, ⟨zs_bipush (n := 32) (by decide +kernel) (by decide), zg_push _⟩, ⟨zs_callV (ci := 6) (C := RX6) (T := TX6) (N := 2) (n := 3) rfl mk_18 rfl ⟨rfl, rfl⟩ ck_18 wd_327 wd_328 wd_329 rfl (by decide +kernel), zg_callV _ _ _ _⟩, trivial⟩,
  ⟨⟨zs_iload_n (k := 2) rfl (by decide +kernel), zg_iload _⟩, ⟨zs_iret (by decide +kernel) rfl, zg_iret⟩, trivial⟩, trivial⟩
-- NeverTogether.put(III)I
def tb_102 : List zz_B := [[(1, zi_aload 0), (1, zi_aload 0), (3, zi_getR 7 1), (1, zi_iload 1), (1, zi_iload 2), (3, zi_callV 7 143 4 1)],
  [(2, zi_istore 4), (2, zi_iload 4), (3, zi_zeq 2), (2, zi_iload 4), (1, zi_iret)],
  [(1, zi_aload 0), (3, zi_getR 7 1), (1, zi_iload 1), (1, zi_iload 2), (1, zi_iload 3), (1, zi_iun (fun x => x.toInt8.toInt32)), (3, zi_callV 6 17 4 3)],
  [(3, zi_push (.int 1000)), (1, zi_ibin (fun x y => x + y)), (1, zi_iret)]]
def pc_102 : List Nat := [0, 10, 20, 31]
set_option maxRecDepth 20000 in
theorem sa_102 : zz_SA zz_mt RX7 yX7_put cX7_put (some .int) 5 pc_102 pc_102 tb_102 := ⟨⟨⟨zs_aload_n (k := 0) rfl (by decide +kernel), zg_aload _⟩, ⟨zs_aload_n (k := 0) rfl (by decide +kernel), zg_aload _⟩, ⟨zs_getR (ci := 7) (k := 1) (C := RX7) (T := TX7) (N := 11) rfl (by decide) rfl wd_282 (by decide +kernel), zg_getR _ _⟩, ⟨zs_iload_n (k := 1) rfl (by decide +kernel), zg_iload _⟩, ⟨zs_iload_n (k := 2) rfl (by decide +kernel), zg_iload _⟩, ⟨zs_callV (ci := 7) (C := RX7) (T := TX7) (N := 11) (n := 3) rfl mk_143 rfl ⟨rfl, rfl⟩ ck_143 wd_336 wd_338 wd_1 rfl (by decide +kernel), zg_callV _ _ _ _⟩, trivial⟩,
  ⟨⟨zs_istore (by decide +kernel), zg_istore _⟩, ⟨zs_iload (by decide +kernel), zg_iload _⟩, ⟨zs_zeq (off := 6) (q := 20) (by decide +kernel) rfl (by decide), zg_zeq _⟩, ⟨zs_iload (by decide +kernel), zg_iload _⟩, ⟨zs_iret (by decide +kernel) rfl, zg_iret⟩, trivial⟩,
  ⟨⟨zs_aload_n (k := 0) rfl (by decide +kernel), zg_aload _⟩, ⟨zs_getR (ci := 7) (k := 1) (C := RX7) (T := TX7) (N := 11) rfl (by decide) rfl wd_282 (by decide +kernel), zg_getR _ _⟩, ⟨zs_iload_n (k := 1) rfl (by decide +kernel), zg_iload _⟩, ⟨zs_iload_n (k := 2) rfl (by decide +kernel), zg_iload _⟩, ⟨zs_iload_n (k := 3) rfl (by decide +kernel), zg_iload _⟩, ⟨zs_i2b (by decide +kernel), zg_iun _⟩, ⟨zs_callV (ci := 6) (C := RX6) (T := TX6) (N := 2) (n := 3) rfl mk_17 rfl ⟨rfl, rfl⟩ ck_17 wd_352 wd_353 wd_354 rfl (by decide +kernel), zg_callV _ _ _ _⟩, trivial⟩,
  ⟨⟨zs_sipush (n := 1000) (by decide +kernel) (by decide), zg_push _⟩, ⟨zs_iadd (by decide +kernel), zg_ibin _⟩, ⟨zs_iret (by decide +kernel) rfl, zg_iret⟩, trivial⟩, trivial⟩
-- NeverTogether.fault(I)I
def tb_103 : List zz_B := [[(1, zi_aload 0), (1, zi_aload 0), (3, zi_getR 7 1), (1, zi_iload 1), (3, zi_callV 7 142 3 1)],
  [(1, zi_istore 2), (1, zi_iload 2), (3, zi_zeq 2), (1, zi_iload 2), (1, zi_iret)],
  [(1, zi_aload 0), (3, zi_getR 7 2), (1, zi_aload 0), (3, zi_getR 7 1), (1, zi_iload 1), (3, zi_callV 5 24 3 3)],
  [(1, zi_iret)]]
def pc_103 : List Nat := [0, 9, 16, 28]
set_option maxRecDepth 20000 in
theorem sa_103 : zz_SA zz_mt RX7 yX7_fault cX7_fault (some .int) 3 pc_103 pc_103 tb_103 := ⟨⟨⟨zs_aload_n (k := 0) rfl (by decide +kernel), zg_aload _⟩, ⟨zs_aload_n (k := 0) rfl (by decide +kernel), zg_aload _⟩, ⟨zs_getR (ci := 7) (k := 1) (C := RX7) (T := TX7) (N := 11) rfl (by decide) rfl wd_282 (by decide +kernel), zg_getR _ _⟩, ⟨zs_iload_n (k := 1) rfl (by decide +kernel), zg_iload _⟩, ⟨zs_callV (ci := 7) (C := RX7) (T := TX7) (N := 11) (n := 2) rfl mk_142 rfl ⟨rfl, rfl⟩ ck_142 wd_340 wd_342 wd_2 rfl (by decide +kernel), zg_callV _ _ _ _⟩, trivial⟩,
  ⟨⟨zs_istore_n (k := 2) rfl (by decide +kernel), zg_istore _⟩, ⟨zs_iload_n (k := 2) rfl (by decide +kernel), zg_iload _⟩, ⟨zs_zeq (off := 5) (q := 16) (by decide +kernel) rfl (by decide), zg_zeq _⟩, ⟨zs_iload_n (k := 2) rfl (by decide +kernel), zg_iload _⟩, ⟨zs_iret (by decide +kernel) rfl, zg_iret⟩, trivial⟩,
  ⟨⟨zs_aload_n (k := 0) rfl (by decide +kernel), zg_aload _⟩, ⟨zs_getR (ci := 7) (k := 2) (C := RX7) (T := TX7) (N := 11) rfl (by decide) rfl wd_283 (by decide +kernel), zg_getR _ _⟩, ⟨zs_aload_n (k := 0) rfl (by decide +kernel), zg_aload _⟩, ⟨zs_getR (ci := 7) (k := 1) (C := RX7) (T := TX7) (N := 11) rfl (by decide) rfl wd_282 (by decide +kernel), zg_getR _ _⟩, ⟨zs_iload_n (k := 1) rfl (by decide +kernel), zg_iload _⟩, ⟨zs_callV (ci := 5) (C := RX5) (T := TX5) (N := 8) (n := 2) rfl mk_24 rfl ⟨rfl, rfl⟩ ck_24 wd_416 wd_417 wd_418 rfl (by decide +kernel), zg_callV _ _ _ _⟩, trivial⟩,
  ⟨⟨zs_iret (by decide +kernel) rfl, zg_iret⟩, trivial⟩, trivial⟩
-- NeverTogether.house(I)I
def tb_104 : List zz_B := [[(1, zi_aload 0), (1, zi_aload 0), (3, zi_getR 7 1), (1, zi_iload 1), (3, zi_callV 7 142 3 1)],
  [(1, zi_istore 2), (1, zi_iload 2), (3, zi_zeq 2), (1, zi_iload 2), (1, zi_iret)],
  [(1, zi_aload 0), (3, zi_getR 7 2), (1, zi_aload 0), (3, zi_getR 7 1), (1, zi_iload 1), (3, zi_callV 5 24 3 3)],
  [(2, zi_push (.int (-9))), (3, zi_ceq 4), (2, zi_push (.int (-4))), (1, zi_iret)],
  [(1, zi_aload 0), (3, zi_getR 7 3), (1, zi_aload 0), (3, zi_getR 7 2), (3, zi_callV 2 30 2 5)],
  [(1, zi_aload 0), (3, zi_getR 7 3), (3, zi_getI 2 10), (1, zi_iret)]]
def pc_104 : List Nat := [0, 9, 16, 28, 36, 47]
set_option maxRecDepth 20000 in
theorem sa_104 : zz_SA zz_mt RX7 yX7_house cX7_house (some .int) 3 pc_104 pc_104 tb_104 := ⟨⟨⟨zs_aload_n (k := 0) rfl (by decide +kernel), zg_aload _⟩, ⟨zs_aload_n (k := 0) rfl (by decide +kernel), zg_aload _⟩, ⟨zs_getR (ci := 7) (k := 1) (C := RX7) (T := TX7) (N := 11) rfl (by decide) rfl wd_282 (by decide +kernel), zg_getR _ _⟩, ⟨zs_iload_n (k := 1) rfl (by decide +kernel), zg_iload _⟩, ⟨zs_callV (ci := 7) (C := RX7) (T := TX7) (N := 11) (n := 2) rfl mk_142 rfl ⟨rfl, rfl⟩ ck_142 wd_340 wd_342 wd_2 rfl (by decide +kernel), zg_callV _ _ _ _⟩, trivial⟩,
  ⟨⟨zs_istore_n (k := 2) rfl (by decide +kernel), zg_istore _⟩, ⟨zs_iload_n (k := 2) rfl (by decide +kernel), zg_iload _⟩, ⟨zs_zeq (off := 5) (q := 16) (by decide +kernel) rfl (by decide), zg_zeq _⟩, ⟨zs_iload_n (k := 2) rfl (by decide +kernel), zg_iload _⟩, ⟨zs_iret (by decide +kernel) rfl, zg_iret⟩, trivial⟩,
  ⟨⟨zs_aload_n (k := 0) rfl (by decide +kernel), zg_aload _⟩, ⟨zs_getR (ci := 7) (k := 2) (C := RX7) (T := TX7) (N := 11) rfl (by decide) rfl wd_283 (by decide +kernel), zg_getR _ _⟩, ⟨zs_aload_n (k := 0) rfl (by decide +kernel), zg_aload _⟩, ⟨zs_getR (ci := 7) (k := 1) (C := RX7) (T := TX7) (N := 11) rfl (by decide) rfl wd_282 (by decide +kernel), zg_getR _ _⟩, ⟨zs_iload_n (k := 1) rfl (by decide +kernel), zg_iload _⟩, ⟨zs_callV (ci := 5) (C := RX5) (T := TX5) (N := 8) (n := 2) rfl mk_24 rfl ⟨rfl, rfl⟩ ck_24 wd_416 wd_417 wd_418 rfl (by decide +kernel), zg_callV _ _ _ _⟩, trivial⟩,
  ⟨⟨zs_bipush (n := (-9)) (by decide +kernel) (by decide), zg_push _⟩, ⟨zs_ceq (off := 6) (q := 36) (by decide +kernel) rfl (by decide), zg_ceq _⟩, ⟨zs_bipush (n := (-4)) (by decide +kernel) (by decide), zg_push _⟩, ⟨zs_iret (by decide +kernel) rfl, zg_iret⟩, trivial⟩,
  ⟨⟨zs_aload_n (k := 0) rfl (by decide +kernel), zg_aload _⟩, ⟨zs_getR (ci := 7) (k := 3) (C := RX7) (T := TX7) (N := 11) rfl (by decide) rfl wd_284 (by decide +kernel), zg_getR _ _⟩, ⟨zs_aload_n (k := 0) rfl (by decide +kernel), zg_aload _⟩, ⟨zs_getR (ci := 7) (k := 2) (C := RX7) (T := TX7) (N := 11) rfl (by decide) rfl wd_283 (by decide +kernel), zg_getR _ _⟩, ⟨zs_callV (ci := 2) (C := RX2) (T := TX2) (N := 14) (n := 1) rfl mk_30 rfl ⟨rfl, rfl⟩ ck_30 wd_448 wd_449 wd_450 rfl (by decide +kernel), zg_callV _ _ _ _⟩, trivial⟩,
  ⟨⟨zs_aload_n (k := 0) rfl (by decide +kernel), zg_aload _⟩, ⟨zs_getR (ci := 7) (k := 3) (C := RX7) (T := TX7) (N := 11) rfl (by decide) rfl wd_284 (by decide +kernel), zg_getR _ _⟩, ⟨zs_getIN (ci := 2) (k := 10) (C := RX2) (T := TX2) (N := 14) rfl (by decide) (Or.inl rfl) wn_164 (by decide +kernel), zg_getI _ _⟩, ⟨zs_iret (by decide +kernel) rfl, zg_iret⟩, trivial⟩, trivial⟩
-- NeverTogether.piece(II)I
def tb_105 : List zz_B := [[(1, zi_aload 0), (3, zi_getR 7 3), (1, zi_iload 1), (3, zi_callV 2 31 2 1)],
  [(3, zi_zeq 2), (1, zi_iload 2), (3, zi_zlt 2), (1, zi_iload 2), (1, zi_push (.int 5)), (3, zi_cle 3), (0, zi_jump 2)],
  [(1, zi_push (.int (-1))), (1, zi_iret)],
  [(1, zi_aload 0), (1, zi_aload 0), (3, zi_getR 7 3), (1, zi_iload 1), (1, zi_iload 2), (3, zi_callV 2 39 3 4)],
  [(3, zi_putI 7 10), (1, zi_push (.int 1)), (1, zi_iret)]]
def pc_105 : List Nat := [0, 8, 20, 22, 32]
set_option maxRecDepth 20000 in
theorem sa_105 : zz_SA zz_mt RX7 yX7_piece cX7_piece (some .int) 3 pc_105 pc_105 tb_105 := ⟨⟨⟨zs_aload_n (k := 0) rfl (by decide +kernel), zg_aload _⟩, ⟨zs_getR (ci := 7) (k := 3) (C := RX7) (T := TX7) (N := 11) rfl (by decide) rfl wd_284 (by decide +kernel), zg_getR _ _⟩, ⟨zs_iload_n (k := 1) rfl (by decide +kernel), zg_iload _⟩, ⟨zs_callV (ci := 2) (C := RX2) (T := TX2) (N := 14) (n := 1) rfl mk_31 rfl ⟨rfl, rfl⟩ ck_31 wd_492 wd_477 wd_478 rfl (by decide +kernel), zg_callV _ _ _ _⟩, trivial⟩,
  ⟨⟨zs_zeq (off := 12) (q := 20) (by decide +kernel) rfl (by decide), zg_zeq _⟩, ⟨zs_iload_n (k := 2) rfl (by decide +kernel), zg_iload _⟩, ⟨zs_zlt (off := 8) (q := 20) (by decide +kernel) rfl (by decide), zg_zlt _⟩, ⟨zs_iload_n (k := 2) rfl (by decide +kernel), zg_iload _⟩, ⟨zs_iconst (n := 5) (by decide +kernel) (by decide), zg_push _⟩, ⟨zs_cle (off := 5) (q := 22) (by decide +kernel) rfl (by decide), zg_cle _⟩, ⟨zs_jump rfl, zg_jump _⟩, trivial⟩,
  ⟨⟨zs_iconst (n := (-1)) (by decide +kernel) (by decide), zg_push _⟩, ⟨zs_iret (by decide +kernel) rfl, zg_iret⟩, trivial⟩,
  ⟨⟨zs_aload_n (k := 0) rfl (by decide +kernel), zg_aload _⟩, ⟨zs_aload_n (k := 0) rfl (by decide +kernel), zg_aload _⟩, ⟨zs_getR (ci := 7) (k := 3) (C := RX7) (T := TX7) (N := 11) rfl (by decide) rfl wd_284 (by decide +kernel), zg_getR _ _⟩, ⟨zs_iload_n (k := 1) rfl (by decide +kernel), zg_iload _⟩, ⟨zs_iload_n (k := 2) rfl (by decide +kernel), zg_iload _⟩, ⟨zs_callV (ci := 2) (C := RX2) (T := TX2) (N := 14) (n := 2) rfl mk_39 rfl ⟨rfl, rfl⟩ ck_39 wd_493 wd_494 wd_495 rfl (by decide +kernel), zg_callV _ _ _ _⟩, trivial⟩,
  ⟨⟨zs_putI (ci := 7) (k := 10) (C := RX7) (T := TX7) (N := 11) rfl (by decide) rfl rfl wd_291 (by decide +kernel), zg_putI _ _⟩, ⟨zs_iconst (n := 1) (by decide +kernel) (by decide), zg_push _⟩, ⟨zs_iret (by decide +kernel) rfl, zg_iret⟩, trivial⟩, trivial⟩
-- NeverTogether.mark(II)I
def tb_106 : List zz_B := [[(1, zi_aload 0), (3, zi_getR 7 3), (1, zi_iload 1), (3, zi_callV 2 31 2 1)],
  [(3, zi_zeq 2), (1, zi_iload 2), (1, zi_push (.int 1)), (3, zi_clt 2), (1, zi_iload 2), (2, zi_push (.int 6)), (3, zi_clt 3), (0, zi_jump 2)],
  [(1, zi_push (.int (-1))), (1, zi_iret)],
  [(1, zi_aload 0), (3, zi_getR 7 3), (1, zi_iload 1), (1, zi_iload 2), (3, zi_callV 2 33 3 4)],
  [(3, zi_zne 6), (1, zi_aload 0), (1, zi_push (.int 3)), (3, zi_callV 7 141 2 5)],
  [(1, zi_iret)],
  [(1, zi_iload 2), (29, zi_tab 1 [7, 9, 11, 13] 16)],
  [(1, zi_aload 0), (3, zi_getR 7 3), (1, zi_iload 1), (3, zi_callV 2 47 2 8)],
  [(1, zi_iret)],
  [(1, zi_aload 0), (3, zi_getR 7 3), (1, zi_iload 1), (3, zi_callV 2 48 2 10)],
  [(1, zi_iret)],
  [(1, zi_aload 0), (3, zi_getR 7 3), (1, zi_iload 1), (3, zi_callV 2 50 2 12)],
  [(1, zi_iret)],
  [(1, zi_aload 0), (3, zi_getR 7 4), (1, zi_aload 0), (3, zi_getR 7 3), (1, zi_push (.int 0)), (1, zi_push (.int 0)), (3, zi_callV 4 62 4 14)],
  [(1, zi_aload 0), (3, zi_getR 7 4), (1, zi_iload 1), (3, zi_callV 4 67 2 15)],
  [(1, zi_iret)],
  [(1, zi_aload 0), (3, zi_getR 7 3), (1, zi_iload 1), (3, zi_callV 2 49 2 17)],
  [(1, zi_iret)]]
def pc_106 : List Nat := [0, 8, 22, 24, 33, 41, 42, 72, 80, 81, 89, 90, 98, 99, 112, 120, 121, 129]
set_option maxRecDepth 20000 in
theorem sa_106 : zz_SA zz_mt RX7 yX7_mark cX7_mark (some .int) 3 pc_106 pc_106 tb_106 := ⟨⟨⟨zs_aload_n (k := 0) rfl (by decide +kernel), zg_aload _⟩, ⟨zs_getR (ci := 7) (k := 3) (C := RX7) (T := TX7) (N := 11) rfl (by decide) rfl wd_284 (by decide +kernel), zg_getR _ _⟩, ⟨zs_iload_n (k := 1) rfl (by decide +kernel), zg_iload _⟩, ⟨zs_callV (ci := 2) (C := RX2) (T := TX2) (N := 14) (n := 1) rfl mk_31 rfl ⟨rfl, rfl⟩ ck_31 wd_492 wd_477 wd_478 rfl (by decide +kernel), zg_callV _ _ _ _⟩, trivial⟩,
  ⟨⟨zs_zeq (off := 14) (q := 22) (by decide +kernel) rfl (by decide), zg_zeq _⟩, ⟨zs_iload_n (k := 2) rfl (by decide +kernel), zg_iload _⟩, ⟨zs_iconst (n := 1) (by decide +kernel) (by decide), zg_push _⟩, ⟨zs_clt (off := 9) (q := 22) (by decide +kernel) rfl (by decide), zg_clt _⟩, ⟨zs_iload_n (k := 2) rfl (by decide +kernel), zg_iload _⟩, ⟨zs_bipush (n := 6) (by decide +kernel) (by decide), zg_push _⟩, ⟨zs_clt (off := 5) (q := 24) (by decide +kernel) rfl (by decide), zg_clt _⟩, ⟨zs_jump rfl, zg_jump _⟩, trivial⟩,
  ⟨⟨zs_iconst (n := (-1)) (by decide +kernel) (by decide), zg_push _⟩, ⟨zs_iret (by decide +kernel) rfl, zg_iret⟩, trivial⟩,
  ⟨⟨zs_aload_n (k := 0) rfl (by decide +kernel), zg_aload _⟩, ⟨zs_getR (ci := 7) (k := 3) (C := RX7) (T := TX7) (N := 11) rfl (by decide) rfl wd_284 (by decide +kernel), zg_getR _ _⟩, ⟨zs_iload_n (k := 1) rfl (by decide +kernel), zg_iload _⟩, ⟨zs_iload_n (k := 2) rfl (by decide +kernel), zg_iload _⟩, ⟨zs_callV (ci := 2) (C := RX2) (T := TX2) (N := 14) (n := 2) rfl mk_33 rfl ⟨rfl, rfl⟩ ck_33 wd_526 wd_527 wd_528 rfl (by decide +kernel), zg_callV _ _ _ _⟩, trivial⟩,
  ⟨⟨zs_zne (off := 9) (q := 42) (by decide +kernel) rfl (by decide), zg_zne _⟩, ⟨zs_aload_n (k := 0) rfl (by decide +kernel), zg_aload _⟩, ⟨zs_iconst (n := 3) (by decide +kernel) (by decide), zg_push _⟩, ⟨zs_callV (ci := 7) (C := RX7) (T := TX7) (N := 11) (n := 1) rfl mk_141 rfl ⟨rfl, rfl⟩ ck_141 wd_323 wd_325 wd_0 rfl (by decide +kernel), zg_callV _ _ _ _⟩, trivial⟩,
  ⟨⟨zs_iret (by decide +kernel) rfl, zg_iret⟩, trivial⟩,
  ⟨⟨zs_iload_n (k := 2) rfl (by decide +kernel), zg_iload _⟩, ⟨zs_tab (dflt := 78) (lo := 1) (up := 4) (offs := #[29, 38, 47, 56]) (len := 29) (q0 := 121) (by decide +kernel) rfl (by decide) (by decide) (zz_tabs_ok (by decide +kernel)), zg_tab _ _ _⟩, trivial⟩,
  ⟨⟨zs_aload_n (k := 0) rfl (by decide +kernel), zg_aload _⟩, ⟨zs_getR (ci := 7) (k := 3) (C := RX7) (T := TX7) (N := 11) rfl (by decide) rfl wd_284 (by decide +kernel), zg_getR _ _⟩, ⟨zs_iload_n (k := 1) rfl (by decide +kernel), zg_iload _⟩, ⟨zs_callV (ci := 2) (C := RX2) (T := TX2) (N := 14) (n := 1) rfl mk_47 rfl ⟨rfl, rfl⟩ ck_47 wd_532 wd_533 wd_534 rfl (by decide +kernel), zg_callV _ _ _ _⟩, trivial⟩,
  ⟨⟨zs_iret (by decide +kernel) rfl, zg_iret⟩, trivial⟩,
  ⟨⟨zs_aload_n (k := 0) rfl (by decide +kernel), zg_aload _⟩, ⟨zs_getR (ci := 7) (k := 3) (C := RX7) (T := TX7) (N := 11) rfl (by decide) rfl wd_284 (by decide +kernel), zg_getR _ _⟩, ⟨zs_iload_n (k := 1) rfl (by decide +kernel), zg_iload _⟩, ⟨zs_callV (ci := 2) (C := RX2) (T := TX2) (N := 14) (n := 1) rfl mk_48 rfl ⟨rfl, rfl⟩ ck_48 wd_536 wd_537 wd_538 rfl (by decide +kernel), zg_callV _ _ _ _⟩, trivial⟩,
  ⟨⟨zs_iret (by decide +kernel) rfl, zg_iret⟩, trivial⟩,
  ⟨⟨zs_aload_n (k := 0) rfl (by decide +kernel), zg_aload _⟩, ⟨zs_getR (ci := 7) (k := 3) (C := RX7) (T := TX7) (N := 11) rfl (by decide) rfl wd_284 (by decide +kernel), zg_getR _ _⟩, ⟨zs_iload_n (k := 1) rfl (by decide +kernel), zg_iload _⟩, ⟨zs_callV (ci := 2) (C := RX2) (T := TX2) (N := 14) (n := 1) rfl mk_50 rfl ⟨rfl, rfl⟩ ck_50 wd_540 wd_541 wd_542 rfl (by decide +kernel), zg_callV _ _ _ _⟩, trivial⟩,
  ⟨⟨zs_iret (by decide +kernel) rfl, zg_iret⟩, trivial⟩,
  ⟨⟨zs_aload_n (k := 0) rfl (by decide +kernel), zg_aload _⟩, ⟨zs_getR (ci := 7) (k := 4) (C := RX7) (T := TX7) (N := 11) rfl (by decide) rfl wd_285 (by decide +kernel), zg_getR _ _⟩, ⟨zs_aload_n (k := 0) rfl (by decide +kernel), zg_aload _⟩, ⟨zs_getR (ci := 7) (k := 3) (C := RX7) (T := TX7) (N := 11) rfl (by decide) rfl wd_284 (by decide +kernel), zg_getR _ _⟩, ⟨zs_iconst (n := 0) (by decide +kernel) (by decide), zg_push _⟩, ⟨zs_iconst (n := 0) (by decide +kernel) (by decide), zg_push _⟩, ⟨zs_callV (ci := 4) (C := RX4) (T := TX4) (N := 2) (n := 3) rfl mk_62 rfl ⟨rfl, rfl⟩ ck_62 wd_550 wd_551 wd_552 rfl (by decide +kernel), zg_callV _ _ _ _⟩, trivial⟩,
  ⟨⟨zs_aload_n (k := 0) rfl (by decide +kernel), zg_aload _⟩, ⟨zs_getR (ci := 7) (k := 4) (C := RX7) (T := TX7) (N := 11) rfl (by decide) rfl wd_285 (by decide +kernel), zg_getR _ _⟩, ⟨zs_iload_n (k := 1) rfl (by decide +kernel), zg_iload _⟩, ⟨zs_callV (ci := 4) (C := RX4) (T := TX4) (N := 2) (n := 1) rfl mk_67 rfl ⟨rfl, rfl⟩ ck_67 wd_565 wd_566 wd_567 rfl (by decide +kernel), zg_callV _ _ _ _⟩, trivial⟩,
  ⟨⟨zs_iret (by decide +kernel) rfl, zg_iret⟩, trivial⟩,
  ⟨⟨zs_aload_n (k := 0) rfl (by decide +kernel), zg_aload _⟩, ⟨zs_getR (ci := 7) (k := 3) (C := RX7) (T := TX7) (N := 11) rfl (by decide) rfl wd_284 (by decide +kernel), zg_getR _ _⟩, ⟨zs_iload_n (k := 1) rfl (by decide +kernel), zg_iload _⟩, ⟨zs_callV (ci := 2) (C := RX2) (T := TX2) (N := 14) (n := 1) rfl mk_49 rfl ⟨rfl, rfl⟩ ck_49 wd_577 wd_578 wd_579 rfl (by decide +kernel), zg_callV _ _ _ _⟩, trivial⟩,
  ⟨⟨zs_iret (by decide +kernel) rfl, zg_iret⟩, trivial⟩, trivial⟩
-- NeverTogether.heat(I)I
def tb_107 : List zz_B := [[(1, zi_iload 1), (3, zi_zlt 1), (1, zi_iload 1), (3, zi_push (.int 999)), (3, zi_cle 2), (0, zi_jump 1)],
  [(1, zi_push (.int (-1))), (1, zi_iret)],
  [(1, zi_aload 0), (3, zi_getR 7 3), (3, zi_getI 2 10), (3, zi_zne 3), (2, zi_push (.int (-4))), (1, zi_iret)],
  [(1, zi_aload 0), (3, zi_getR 7 3), (1, zi_iload 1), (3, zi_callV 2 41 2 4)],
  [(1, zi_iret)]]
def pc_107 : List Nat := [0, 11, 13, 26, 34]
set_option maxRecDepth 20000 in
theorem sa_107 : zz_SA zz_mt RX7 yX7_heat cX7_heat (some .int) 2 pc_107 pc_107 tb_107 := ⟨⟨⟨zs_iload_n (k := 1) rfl (by decide +kernel), zg_iload _⟩, ⟨zs_zlt (off := 10) (q := 11) (by decide +kernel) rfl (by decide), zg_zlt _⟩, ⟨zs_iload_n (k := 1) rfl (by decide +kernel), zg_iload _⟩, ⟨zs_sipush (n := 999) (by decide +kernel) (by decide), zg_push _⟩, ⟨zs_cle (off := 5) (q := 13) (by decide +kernel) rfl (by decide), zg_cle _⟩, ⟨zs_jump rfl, zg_jump _⟩, trivial⟩,
  ⟨⟨zs_iconst (n := (-1)) (by decide +kernel) (by decide), zg_push _⟩, ⟨zs_iret (by decide +kernel) rfl, zg_iret⟩, trivial⟩,
  ⟨⟨zs_aload_n (k := 0) rfl (by decide +kernel), zg_aload _⟩, ⟨zs_getR (ci := 7) (k := 3) (C := RX7) (T := TX7) (N := 11) rfl (by decide) rfl wd_284 (by decide +kernel), zg_getR _ _⟩, ⟨zs_getIN (ci := 2) (k := 10) (C := RX2) (T := TX2) (N := 14) rfl (by decide) (Or.inl rfl) wn_164 (by decide +kernel), zg_getI _ _⟩, ⟨zs_zne (off := 6) (q := 26) (by decide +kernel) rfl (by decide), zg_zne _⟩, ⟨zs_bipush (n := (-4)) (by decide +kernel) (by decide), zg_push _⟩, ⟨zs_iret (by decide +kernel) rfl, zg_iret⟩, trivial⟩,
  ⟨⟨zs_aload_n (k := 0) rfl (by decide +kernel), zg_aload _⟩, ⟨zs_getR (ci := 7) (k := 3) (C := RX7) (T := TX7) (N := 11) rfl (by decide) rfl wd_284 (by decide +kernel), zg_getR _ _⟩, ⟨zs_iload_n (k := 1) rfl (by decide +kernel), zg_iload _⟩, ⟨zs_callV (ci := 2) (C := RX2) (T := TX2) (N := 14) (n := 1) rfl mk_41 rfl ⟨rfl, rfl⟩ ck_41 wd_585 wd_469 wd_470 rfl (by decide +kernel), zg_callV _ _ _ _⟩, trivial⟩,
  ⟨⟨zs_iret (by decide +kernel) rfl, zg_iret⟩, trivial⟩, trivial⟩
-- NeverTogether.day()I
def tb_108 : List zz_B := [[(1, zi_aload 0), (3, zi_getR 7 3), (3, zi_getI 2 10), (3, zi_zne 1), (2, zi_push (.int (-4))), (1, zi_iret)],
  [(1, zi_aload 0), (3, zi_getR 7 3), (1, zi_push (.int 1)), (3, zi_callV 2 51 2 2)],
  [(3, zi_zne 3), (2, zi_push (.int (-2))), (1, zi_iret)],
  [(1, zi_aload 0), (3, zi_getR 7 3), (3, zi_callV 2 52 1 4)],
  [(1, zi_aload 0), (3, zi_callV 7 147 1 5)],
  [(1, zi_iret)]]
def pc_108 : List Nat := [0, 13, 21, 27, 34, 38]
set_option maxRecDepth 20000 in
theorem sa_108 : zz_SA zz_mt RX7 yX7_day cX7_day (some .int) 1 pc_108 pc_108 tb_108 := ⟨⟨⟨zs_aload_n (k := 0) rfl (by decide +kernel), zg_aload _⟩, ⟨zs_getR (ci := 7) (k := 3) (C := RX7) (T := TX7) (N := 11) rfl (by decide) rfl wd_284 (by decide +kernel), zg_getR _ _⟩, ⟨zs_getIN (ci := 2) (k := 10) (C := RX2) (T := TX2) (N := 14) rfl (by decide) (Or.inl rfl) wn_164 (by decide +kernel), zg_getI _ _⟩, ⟨zs_zne (off := 6) (q := 13) (by decide +kernel) rfl (by decide), zg_zne _⟩, ⟨zs_bipush (n := (-4)) (by decide +kernel) (by decide), zg_push _⟩, ⟨zs_iret (by decide +kernel) rfl, zg_iret⟩, trivial⟩,
  ⟨⟨zs_aload_n (k := 0) rfl (by decide +kernel), zg_aload _⟩, ⟨zs_getR (ci := 7) (k := 3) (C := RX7) (T := TX7) (N := 11) rfl (by decide) rfl wd_284 (by decide +kernel), zg_getR _ _⟩, ⟨zs_iconst (n := 1) (by decide +kernel) (by decide), zg_push _⟩, ⟨zs_callV (ci := 2) (C := RX2) (T := TX2) (N := 14) (n := 1) rfl mk_51 rfl ⟨rfl, rfl⟩ ck_51 wd_590 wd_591 wd_592 rfl (by decide +kernel), zg_callV _ _ _ _⟩, trivial⟩,
  ⟨⟨zs_zne (off := 6) (q := 27) (by decide +kernel) rfl (by decide), zg_zne _⟩, ⟨zs_bipush (n := (-2)) (by decide +kernel) (by decide), zg_push _⟩, ⟨zs_iret (by decide +kernel) rfl, zg_iret⟩, trivial⟩,
  ⟨⟨zs_aload_n (k := 0) rfl (by decide +kernel), zg_aload _⟩, ⟨zs_getR (ci := 7) (k := 3) (C := RX7) (T := TX7) (N := 11) rfl (by decide) rfl wd_284 (by decide +kernel), zg_getR _ _⟩, ⟨zs_callV (ci := 2) (C := RX2) (T := TX2) (N := 14) (n := 0) rfl mk_52 rfl ⟨rfl, rfl⟩ ck_52 wd_594 wd_595 wd_596 rfl (by decide +kernel), zg_callV _ _ _ _⟩, trivial⟩,
  ⟨⟨zs_aload_n (k := 0) rfl (by decide +kernel), zg_aload _⟩, ⟨zs_callV (ci := 7) (C := RX7) (T := TX7) (N := 11) (n := 0) rfl mk_147 rfl ⟨rfl, rfl⟩ ck_147 wd_598 wd_600 wd_11 rfl (by decide +kernel), zg_callV _ _ _ _⟩, trivial⟩,
  ⟨⟨zs_iret (by decide +kernel) rfl, zg_iret⟩, trivial⟩, trivial⟩
-- NeverTogether.touch(II)I
def tb_109 : List zz_B := [[(1, zi_aload 0), (3, zi_getR 7 3), (1, zi_iload 1), (3, zi_callV 2 31 2 1)],
  [(3, zi_zeq 2), (1, zi_iload 2), (3, zi_zeq 2), (1, zi_iload 2), (2, zi_push (.int (-5))), (3, zi_clt 2), (1, zi_iload 2), (1, zi_push (.int 5)), (3, zi_cle 3), (0, zi_jump 2)],
  [(1, zi_push (.int (-1))), (1, zi_iret)],
  [(1, zi_aload 0), (3, zi_getR 7 3), (1, zi_iload 1), (3, zi_callV 2 38 2 4)],
  [(3, zi_zeq 5), (2, zi_push (.int (-4))), (1, zi_iret)],
  [(1, zi_aload 0), (3, zi_getR 7 3), (1, zi_push (.int 1)), (3, zi_callV 2 51 2 6)],
  [(3, zi_zne 7), (2, zi_push (.int (-2))), (1, zi_iret)],
  [(1, zi_aload 0), (3, zi_getR 7 3), (1, zi_iload 1), (1, zi_iload 2), (3, zi_callV 2 53 3 8)],
  [(1, zi_aload 0), (3, zi_getR 7 3), (1, zi_iload 1), (1, zi_push (.int 0)), (1, zi_push (.int 0)), (3, zi_callV 2 44 4 9)],
  [(1, zi_iret)]]
def pc_109 : List Nat := [0, 8, 26, 28, 36, 42, 50, 56, 65, 75]
set_option maxRecDepth 20000 in
theorem sa_109 : zz_SA zz_mt RX7 yX7_touch cX7_touch (some .int) 3 pc_109 pc_109 tb_109 := ⟨⟨⟨zs_aload_n (k := 0) rfl (by decide +kernel), zg_aload _⟩, ⟨zs_getR (ci := 7) (k := 3) (C := RX7) (T := TX7) (N := 11) rfl (by decide) rfl wd_284 (by decide +kernel), zg_getR _ _⟩, ⟨zs_iload_n (k := 1) rfl (by decide +kernel), zg_iload _⟩, ⟨zs_callV (ci := 2) (C := RX2) (T := TX2) (N := 14) (n := 1) rfl mk_31 rfl ⟨rfl, rfl⟩ ck_31 wd_492 wd_477 wd_478 rfl (by decide +kernel), zg_callV _ _ _ _⟩, trivial⟩,
  ⟨⟨zs_zeq (off := 18) (q := 26) (by decide +kernel) rfl (by decide), zg_zeq _⟩, ⟨zs_iload_n (k := 2) rfl (by decide +kernel), zg_iload _⟩, ⟨zs_zeq (off := 14) (q := 26) (by decide +kernel) rfl (by decide), zg_zeq _⟩, ⟨zs_iload_n (k := 2) rfl (by decide +kernel), zg_iload _⟩, ⟨zs_bipush (n := (-5)) (by decide +kernel) (by decide), zg_push _⟩, ⟨zs_clt (off := 8) (q := 26) (by decide +kernel) rfl (by decide), zg_clt _⟩, ⟨zs_iload_n (k := 2) rfl (by decide +kernel), zg_iload _⟩, ⟨zs_iconst (n := 5) (by decide +kernel) (by decide), zg_push _⟩, ⟨zs_cle (off := 5) (q := 28) (by decide +kernel) rfl (by decide), zg_cle _⟩, ⟨zs_jump rfl, zg_jump _⟩, trivial⟩,
  ⟨⟨zs_iconst (n := (-1)) (by decide +kernel) (by decide), zg_push _⟩, ⟨zs_iret (by decide +kernel) rfl, zg_iret⟩, trivial⟩,
  ⟨⟨zs_aload_n (k := 0) rfl (by decide +kernel), zg_aload _⟩, ⟨zs_getR (ci := 7) (k := 3) (C := RX7) (T := TX7) (N := 11) rfl (by decide) rfl wd_284 (by decide +kernel), zg_getR _ _⟩, ⟨zs_iload_n (k := 1) rfl (by decide +kernel), zg_iload _⟩, ⟨zs_callV (ci := 2) (C := RX2) (T := TX2) (N := 14) (n := 1) rfl mk_38 rfl ⟨rfl, rfl⟩ ck_38 wd_611 wd_519 wd_520 rfl (by decide +kernel), zg_callV _ _ _ _⟩, trivial⟩,
  ⟨⟨zs_zeq (off := 6) (q := 42) (by decide +kernel) rfl (by decide), zg_zeq _⟩, ⟨zs_bipush (n := (-4)) (by decide +kernel) (by decide), zg_push _⟩, ⟨zs_iret (by decide +kernel) rfl, zg_iret⟩, trivial⟩,
  ⟨⟨zs_aload_n (k := 0) rfl (by decide +kernel), zg_aload _⟩, ⟨zs_getR (ci := 7) (k := 3) (C := RX7) (T := TX7) (N := 11) rfl (by decide) rfl wd_284 (by decide +kernel), zg_getR _ _⟩, ⟨zs_iconst (n := 1) (by decide +kernel) (by decide), zg_push _⟩, ⟨zs_callV (ci := 2) (C := RX2) (T := TX2) (N := 14) (n := 1) rfl mk_51 rfl ⟨rfl, rfl⟩ ck_51 wd_590 wd_591 wd_592 rfl (by decide +kernel), zg_callV _ _ _ _⟩, trivial⟩,
  ⟨⟨zs_zne (off := 6) (q := 56) (by decide +kernel) rfl (by decide), zg_zne _⟩, ⟨zs_bipush (n := (-2)) (by decide +kernel) (by decide), zg_push _⟩, ⟨zs_iret (by decide +kernel) rfl, zg_iret⟩, trivial⟩,
  ⟨⟨zs_aload_n (k := 0) rfl (by decide +kernel), zg_aload _⟩, ⟨zs_getR (ci := 7) (k := 3) (C := RX7) (T := TX7) (N := 11) rfl (by decide) rfl wd_284 (by decide +kernel), zg_getR _ _⟩, ⟨zs_iload_n (k := 1) rfl (by decide +kernel), zg_iload _⟩, ⟨zs_iload_n (k := 2) rfl (by decide +kernel), zg_iload _⟩, ⟨zs_callV (ci := 2) (C := RX2) (T := TX2) (N := 14) (n := 2) rfl mk_53 rfl ⟨rfl, rfl⟩ ck_53 wd_612 wd_613 wd_614 rfl (by decide +kernel), zg_callV _ _ _ _⟩, trivial⟩,
  ⟨⟨zs_aload_n (k := 0) rfl (by decide +kernel), zg_aload _⟩, ⟨zs_getR (ci := 7) (k := 3) (C := RX7) (T := TX7) (N := 11) rfl (by decide) rfl wd_284 (by decide +kernel), zg_getR _ _⟩, ⟨zs_iload_n (k := 1) rfl (by decide +kernel), zg_iload _⟩, ⟨zs_iconst (n := 0) (by decide +kernel) (by decide), zg_push _⟩, ⟨zs_iconst (n := 0) (by decide +kernel) (by decide), zg_push _⟩, ⟨zs_callV (ci := 2) (C := RX2) (T := TX2) (N := 14) (n := 3) rfl mk_44 rfl ⟨rfl, rfl⟩ ck_44 wd_616 wd_473 wd_474 rfl (by decide +kernel), zg_callV _ _ _ _⟩, trivial⟩,
  ⟨⟨zs_iret (by decide +kernel) rfl, zg_iret⟩, trivial⟩, trivial⟩
-- NeverTogether.undo(I)I
def tb_110 : List zz_B := [[(1, zi_iload 1), (3, zi_zlt 1), (1, zi_iload 1), (1, zi_aload 0), (3, zi_getR 7 3), (3, zi_getI 2 13), (3, zi_cle 2), (0, zi_jump 1)],
  [(1, zi_push (.int (-1))), (1, zi_iret)],
  [(1, zi_aload 0), (3, zi_getR 7 3), (3, zi_getI 2 13), (1, zi_iload 1), (1, zi_ibin (fun x y => x - y)), (1, zi_istore 2), (1, zi_aload 0), (3, zi_getR 7 3), (1, zi_iload 1), (3, zi_callV 2 57 2 3)],
  [(1, zi_iload 2), (1, zi_iret)]]
def pc_110 : List Nat := [0, 15, 17, 35]
set_option maxRecDepth 20000 in
theorem sa_110 : zz_SA zz_mt RX7 yX7_undo cX7_undo (some .int) 3 pc_110 pc_110 tb_110 := ⟨⟨⟨zs_iload_n (k := 1) rfl (by decide +kernel), zg_iload _⟩, ⟨zs_zlt (off := 14) (q := 15) (by decide +kernel) rfl (by decide), zg_zlt _⟩, ⟨zs_iload_n (k := 1) rfl (by decide +kernel), zg_iload _⟩, ⟨zs_aload_n (k := 0) rfl (by decide +kernel), zg_aload _⟩, ⟨zs_getR (ci := 7) (k := 3) (C := RX7) (T := TX7) (N := 11) rfl (by decide) rfl wd_284 (by decide +kernel), zg_getR _ _⟩, ⟨zs_getIN (ci := 2) (k := 13) (C := RX2) (T := TX2) (N := 14) rfl (by decide) (Or.inl rfl) wn_168 (by decide +kernel), zg_getI _ _⟩, ⟨zs_cle (off := 5) (q := 17) (by decide +kernel) rfl (by decide), zg_cle _⟩, ⟨zs_jump rfl, zg_jump _⟩, trivial⟩,
  ⟨⟨zs_iconst (n := (-1)) (by decide +kernel) (by decide), zg_push _⟩, ⟨zs_iret (by decide +kernel) rfl, zg_iret⟩, trivial⟩,
  ⟨⟨zs_aload_n (k := 0) rfl (by decide +kernel), zg_aload _⟩, ⟨zs_getR (ci := 7) (k := 3) (C := RX7) (T := TX7) (N := 11) rfl (by decide) rfl wd_284 (by decide +kernel), zg_getR _ _⟩, ⟨zs_getIN (ci := 2) (k := 13) (C := RX2) (T := TX2) (N := 14) rfl (by decide) (Or.inl rfl) wn_168 (by decide +kernel), zg_getI _ _⟩, ⟨zs_iload_n (k := 1) rfl (by decide +kernel), zg_iload _⟩, ⟨zs_isub (by decide +kernel), zg_ibin _⟩, ⟨zs_istore_n (k := 2) rfl (by decide +kernel), zg_istore _⟩, ⟨zs_aload_n (k := 0) rfl (by decide +kernel), zg_aload _⟩, ⟨zs_getR (ci := 7) (k := 3) (C := RX7) (T := TX7) (N := 11) rfl (by decide) rfl wd_284 (by decide +kernel), zg_getR _ _⟩, ⟨zs_iload_n (k := 1) rfl (by decide +kernel), zg_iload _⟩, ⟨zs_callV (ci := 2) (C := RX2) (T := TX2) (N := 14) (n := 1) rfl mk_57 rfl ⟨rfl, rfl⟩ ck_57 wd_621 wd_453 wd_454 rfl (by decide +kernel), zg_callV _ _ _ _⟩, trivial⟩,
  ⟨⟨zs_iload_n (k := 2) rfl (by decide +kernel), zg_iload _⟩, ⟨zs_iret (by decide +kernel) rfl, zg_iret⟩, trivial⟩, trivial⟩
-- NeverTogether.keep(I)I
def tb_111 : List zz_B := [[(1, zi_iload 1), (3, zi_zlt 1), (1, zi_iload 1), (1, zi_push (.int 3)), (3, zi_clt 2), (0, zi_jump 1)],
  [(1, zi_push (.int (-1))), (1, zi_iret)],
  [(1, zi_aload 0), (3, zi_getR 7 3), (3, zi_getI 2 10), (3, zi_zne 3), (2, zi_push (.int (-4))), (1, zi_iret)],
  [(1, zi_aload 0), (3, zi_getR 7 3), (1, zi_iload 1), (3, zi_callV 2 60 2 4)],
  [(1, zi_aload 0), (3, zi_getR 7 3), (3, zi_getI 2 13), (1, zi_iret)]]
def pc_111 : List Nat := [0, 9, 11, 24, 32]
set_option maxRecDepth 20000 in
theorem sa_111 : zz_SA zz_mt RX7 yX7_keep cX7_keep (some .int) 2 pc_111 pc_111 tb_111 := ⟨⟨⟨zs_iload_n (k := 1) rfl (by decide +kernel), zg_iload _⟩, ⟨zs_zlt (off := 8) (q := 9) (by decide +kernel) rfl (by decide), zg_zlt _⟩, ⟨zs_iload_n (k := 1) rfl (by decide +kernel), zg_iload _⟩, ⟨zs_iconst (n := 3) (by decide +kernel) (by decide), zg_push _⟩, ⟨zs_clt (off := 5) (q := 11) (by decide +kernel) rfl (by decide), zg_clt _⟩, ⟨zs_jump rfl, zg_jump _⟩, trivial⟩,
  ⟨⟨zs_iconst (n := (-1)) (by decide +kernel) (by decide), zg_push _⟩, ⟨zs_iret (by decide +kernel) rfl, zg_iret⟩, trivial⟩,
  ⟨⟨zs_aload_n (k := 0) rfl (by decide +kernel), zg_aload _⟩, ⟨zs_getR (ci := 7) (k := 3) (C := RX7) (T := TX7) (N := 11) rfl (by decide) rfl wd_284 (by decide +kernel), zg_getR _ _⟩, ⟨zs_getIN (ci := 2) (k := 10) (C := RX2) (T := TX2) (N := 14) rfl (by decide) (Or.inl rfl) wn_164 (by decide +kernel), zg_getI _ _⟩, ⟨zs_zne (off := 6) (q := 24) (by decide +kernel) rfl (by decide), zg_zne _⟩, ⟨zs_bipush (n := (-4)) (by decide +kernel) (by decide), zg_push _⟩, ⟨zs_iret (by decide +kernel) rfl, zg_iret⟩, trivial⟩,
  ⟨⟨zs_aload_n (k := 0) rfl (by decide +kernel), zg_aload _⟩, ⟨zs_getR (ci := 7) (k := 3) (C := RX7) (T := TX7) (N := 11) rfl (by decide) rfl wd_284 (by decide +kernel), zg_getR _ _⟩, ⟨zs_iload_n (k := 1) rfl (by decide +kernel), zg_iload _⟩, ⟨zs_callV (ci := 2) (C := RX2) (T := TX2) (N := 14) (n := 1) rfl mk_60 rfl ⟨rfl, rfl⟩ ck_60 wd_626 wd_627 wd_628 rfl (by decide +kernel), zg_callV _ _ _ _⟩, trivial⟩,
  ⟨⟨zs_aload_n (k := 0) rfl (by decide +kernel), zg_aload _⟩, ⟨zs_getR (ci := 7) (k := 3) (C := RX7) (T := TX7) (N := 11) rfl (by decide) rfl wd_284 (by decide +kernel), zg_getR _ _⟩, ⟨zs_getIN (ci := 2) (k := 13) (C := RX2) (T := TX2) (N := 14) rfl (by decide) (Or.inl rfl) wn_168 (by decide +kernel), zg_getI _ _⟩, ⟨zs_iret (by decide +kernel) rfl, zg_iret⟩, trivial⟩, trivial⟩
-- NeverTogether.on(I)I
def tb_112 : List zz_B := [[(1, zi_iload 1), (3, zi_zlt 1), (1, zi_iload 1), (1, zi_push (.int 3)), (3, zi_clt 2), (0, zi_jump 1)],
  [(1, zi_push (.int (-1))), (1, zi_iret)],
  [(1, zi_aload 0), (3, zi_getR 7 3), (1, zi_iload 1), (3, zi_callV 2 58 2 3)],
  [(3, zi_zge 5), (1, zi_aload 0), (1, zi_push (.int 1)), (3, zi_callV 7 141 2 4)],
  [(1, zi_iret)],
  [(1, zi_aload 0), (3, zi_getR 7 3), (1, zi_iload 1), (3, zi_callV 2 61 2 6)],
  [(1, zi_aload 0), (3, zi_getR 7 3), (3, zi_getI 2 13), (1, zi_iret)]]
def pc_112 : List Nat := [0, 9, 11, 19, 27, 28, 36]
set_option maxRecDepth 20000 in
theorem sa_112 : zz_SA zz_mt RX7 yX7_on cX7_on (some .int) 2 pc_112 pc_112 tb_112 := ⟨⟨⟨zs_iload_n (k := 1) rfl (by decide +kernel), zg_iload _⟩, ⟨zs_zlt (off := 8) (q := 9) (by decide +kernel) rfl (by decide), zg_zlt _⟩, ⟨zs_iload_n (k := 1) rfl (by decide +kernel), zg_iload _⟩, ⟨zs_iconst (n := 3) (by decide +kernel) (by decide), zg_push _⟩, ⟨zs_clt (off := 5) (q := 11) (by decide +kernel) rfl (by decide), zg_clt _⟩, ⟨zs_jump rfl, zg_jump _⟩, trivial⟩,
  ⟨⟨zs_iconst (n := (-1)) (by decide +kernel) (by decide), zg_push _⟩, ⟨zs_iret (by decide +kernel) rfl, zg_iret⟩, trivial⟩,
  ⟨⟨zs_aload_n (k := 0) rfl (by decide +kernel), zg_aload _⟩, ⟨zs_getR (ci := 7) (k := 3) (C := RX7) (T := TX7) (N := 11) rfl (by decide) rfl wd_284 (by decide +kernel), zg_getR _ _⟩, ⟨zs_iload_n (k := 1) rfl (by decide +kernel), zg_iload _⟩, ⟨zs_callV (ci := 2) (C := RX2) (T := TX2) (N := 14) (n := 1) rfl mk_58 rfl ⟨rfl, rfl⟩ ck_58 wd_634 wd_635 wd_636 rfl (by decide +kernel), zg_callV _ _ _ _⟩, trivial⟩,
  ⟨⟨zs_zge (off := 9) (q := 28) (by decide +kernel) rfl (by decide), zg_zge _⟩, ⟨zs_aload_n (k := 0) rfl (by decide +kernel), zg_aload _⟩, ⟨zs_iconst (n := 1) (by decide +kernel) (by decide), zg_push _⟩, ⟨zs_callV (ci := 7) (C := RX7) (T := TX7) (N := 11) (n := 1) rfl mk_141 rfl ⟨rfl, rfl⟩ ck_141 wd_323 wd_325 wd_0 rfl (by decide +kernel), zg_callV _ _ _ _⟩, trivial⟩,
  ⟨⟨zs_iret (by decide +kernel) rfl, zg_iret⟩, trivial⟩,
  ⟨⟨zs_aload_n (k := 0) rfl (by decide +kernel), zg_aload _⟩, ⟨zs_getR (ci := 7) (k := 3) (C := RX7) (T := TX7) (N := 11) rfl (by decide) rfl wd_284 (by decide +kernel), zg_getR _ _⟩, ⟨zs_iload_n (k := 1) rfl (by decide +kernel), zg_iload _⟩, ⟨zs_callV (ci := 2) (C := RX2) (T := TX2) (N := 14) (n := 1) rfl mk_61 rfl ⟨rfl, rfl⟩ ck_61 wd_638 wd_639 wd_640 rfl (by decide +kernel), zg_callV _ _ _ _⟩, trivial⟩,
  ⟨⟨zs_aload_n (k := 0) rfl (by decide +kernel), zg_aload _⟩, ⟨zs_getR (ci := 7) (k := 3) (C := RX7) (T := TX7) (N := 11) rfl (by decide) rfl wd_284 (by decide +kernel), zg_getR _ _⟩, ⟨zs_getIN (ci := 2) (k := 13) (C := RX2) (T := TX2) (N := 14) rfl (by decide) (Or.inl rfl) wn_168 (by decide +kernel), zg_getI _ _⟩, ⟨zs_iret (by decide +kernel) rfl, zg_iret⟩, trivial⟩, trivial⟩
-- NeverTogether.minute(II)I
def tb_113 : List zz_B := [[(1, zi_aload 0), (3, zi_getR 7 3), (1, zi_iload 1), (3, zi_callV 2 31 2 1)],
  [(3, zi_zeq 3), (1, zi_iload 2), (3, zi_callS 149 1 2)],
  [(3, zi_zne 4), (0, zi_jump 3)],
  [(1, zi_push (.int (-1))), (1, zi_iret)],
  [(1, zi_aload 0), (3, zi_getR 7 3), (1, zi_iload 1), (1, zi_iload 2), (1, zi_aload 0), (3, zi_getR 7 3), (1, zi_iload 2), (3, zi_callV 2 43 2 5)],
  [(3, zi_callV 2 44 4 6)],
  [(1, zi_iret)]]
def pc_113 : List Nat := [0, 8, 15, 18, 20, 34, 37]
set_option maxRecDepth 20000 in
theorem sa_113 : zz_SA zz_mt RX7 yX7_minute cX7_minute (some .int) 3 pc_113 pc_113 tb_113 := ⟨⟨⟨zs_aload_n (k := 0) rfl (by decide +kernel), zg_aload _⟩, ⟨zs_getR (ci := 7) (k := 3) (C := RX7) (T := TX7) (N := 11) rfl (by decide) rfl wd_284 (by decide +kernel), zg_getR _ _⟩, ⟨zs_iload_n (k := 1) rfl (by decide +kernel), zg_iload _⟩, ⟨zs_callV (ci := 2) (C := RX2) (T := TX2) (N := 14) (n := 1) rfl mk_31 rfl ⟨rfl, rfl⟩ ck_31 wd_492 wd_477 wd_478 rfl (by decide +kernel), zg_callV _ _ _ _⟩, trivial⟩,
  ⟨⟨zs_zeq (off := 10) (q := 18) (by decide +kernel) rfl (by decide), zg_zeq _⟩, ⟨zs_iload_n (k := 2) rfl (by decide +kernel), zg_iload _⟩, ⟨zs_callS (n := 1) mk_149 ⟨rfl, rfl⟩ ck_149 wd_647 wd_648 wd_69 rfl (by decide +kernel), zg_callS _ _ _⟩, trivial⟩,
  ⟨⟨zs_zne (off := 5) (q := 20) (by decide +kernel) rfl (by decide), zg_zne _⟩, ⟨zs_jump rfl, zg_jump _⟩, trivial⟩,
  ⟨⟨zs_iconst (n := (-1)) (by decide +kernel) (by decide), zg_push _⟩, ⟨zs_iret (by decide +kernel) rfl, zg_iret⟩, trivial⟩,
  ⟨⟨zs_aload_n (k := 0) rfl (by decide +kernel), zg_aload _⟩, ⟨zs_getR (ci := 7) (k := 3) (C := RX7) (T := TX7) (N := 11) rfl (by decide) rfl wd_284 (by decide +kernel), zg_getR _ _⟩, ⟨zs_iload_n (k := 1) rfl (by decide +kernel), zg_iload _⟩, ⟨zs_iload_n (k := 2) rfl (by decide +kernel), zg_iload _⟩, ⟨zs_aload_n (k := 0) rfl (by decide +kernel), zg_aload _⟩, ⟨zs_getR (ci := 7) (k := 3) (C := RX7) (T := TX7) (N := 11) rfl (by decide) rfl wd_284 (by decide +kernel), zg_getR _ _⟩, ⟨zs_iload_n (k := 2) rfl (by decide +kernel), zg_iload _⟩, ⟨zs_callV (ci := 2) (C := RX2) (T := TX2) (N := 14) (n := 1) rfl mk_43 rfl ⟨rfl, rfl⟩ ck_43 wd_650 wd_651 wd_652 rfl (by decide +kernel), zg_callV _ _ _ _⟩, trivial⟩,
  ⟨⟨zs_callV (ci := 2) (C := RX2) (T := TX2) (N := 14) (n := 3) rfl mk_44 rfl ⟨rfl, rfl⟩ ck_44 wd_616 wd_473 wd_474 rfl (by decide +kernel), zg_callV _ _ _ _⟩, trivial⟩,
  ⟨⟨zs_iret (by decide +kernel) rfl, zg_iret⟩, trivial⟩, trivial⟩
-- NeverTogether.meet(II)I
def tb_114 : List zz_B := [[(1, zi_aload 0), (3, zi_getR 7 3), (1, zi_iload 1), (1, zi_iload 2), (3, zi_callV 2 32 3 1)],
  [(3, zi_zne 2), (1, zi_push (.int (-1))), (1, zi_iret)],
  [(1, zi_push (.int 0)), (1, zi_istore 3), (1, zi_push (.int 0)), (2, zi_istore 4), (0, zi_jump 3)],
  [(2, zi_iload 4), (3, zi_push (.int 420)), (3, zi_cgt 7), (1, zi_aload 0), (3, zi_getR 7 3), (1, zi_iload 1), (1, zi_iload 2), (2, zi_iload 4), (1, zi_iload 3), (3, zi_callV 2 46 5 4)],
  [(3, zi_zeq 5), (2, zi_iload 4), (1, zi_iret)],
  [(1, zi_iload 3), (1, zi_aload 0), (3, zi_getR 7 3), (2, zi_iload 4), (3, zi_callV 2 42 2 6)],
  [(1, zi_ibin (fun x y => x + y)), (1, zi_istore 3), (3, zi_iinc 4 1), (3, zi_jump 3)],
  [(2, zi_push (.int (-9))), (1, zi_iret)]]
def pc_114 : List Nat := [0, 9, 14, 19, 39, 45, 55, 63]
set_option maxRecDepth 20000 in
theorem sa_114 : zz_SA zz_mt RX7 yX7_meet cX7_meet (some .int) 5 pc_114 pc_114 tb_114 := ⟨⟨⟨zs_aload_n (k := 0) rfl (by decide +kernel), zg_aload _⟩, ⟨zs_getR (ci := 7) (k := 3) (C := RX7) (T := TX7) (N := 11) rfl (by decide) rfl wd_284 (by decide +kernel), zg_getR _ _⟩, ⟨zs_iload_n (k := 1) rfl (by decide +kernel), zg_iload _⟩, ⟨zs_iload_n (k := 2) rfl (by decide +kernel), zg_iload _⟩, ⟨zs_callV (ci := 2) (C := RX2) (T := TX2) (N := 14) (n := 2) rfl mk_32 rfl ⟨rfl, rfl⟩ ck_32 wd_658 wd_659 wd_660 rfl (by decide +kernel), zg_callV _ _ _ _⟩, trivial⟩,
  ⟨⟨zs_zne (off := 5) (q := 14) (by decide +kernel) rfl (by decide), zg_zne _⟩, ⟨zs_iconst (n := (-1)) (by decide +kernel) (by decide), zg_push _⟩, ⟨zs_iret (by decide +kernel) rfl, zg_iret⟩, trivial⟩,
  ⟨⟨zs_iconst (n := 0) (by decide +kernel) (by decide), zg_push _⟩, ⟨zs_istore_n (k := 3) rfl (by decide +kernel), zg_istore _⟩, ⟨zs_iconst (n := 0) (by decide +kernel) (by decide), zg_push _⟩, ⟨zs_istore (by decide +kernel), zg_istore _⟩, ⟨zs_jump rfl, zg_jump _⟩, trivial⟩,
  ⟨⟨zs_iload (by decide +kernel), zg_iload _⟩, ⟨zs_sipush (n := 420) (by decide +kernel) (by decide), zg_push _⟩, ⟨zs_cgt (off := 39) (q := 63) (by decide +kernel) rfl (by decide), zg_cgt _⟩, ⟨zs_aload_n (k := 0) rfl (by decide +kernel), zg_aload _⟩, ⟨zs_getR (ci := 7) (k := 3) (C := RX7) (T := TX7) (N := 11) rfl (by decide) rfl wd_284 (by decide +kernel), zg_getR _ _⟩, ⟨zs_iload_n (k := 1) rfl (by decide +kernel), zg_iload _⟩, ⟨zs_iload_n (k := 2) rfl (by decide +kernel), zg_iload _⟩, ⟨zs_iload (by decide +kernel), zg_iload _⟩, ⟨zs_iload_n (k := 3) rfl (by decide +kernel), zg_iload _⟩, ⟨zs_callV (ci := 2) (C := RX2) (T := TX2) (N := 14) (n := 4) rfl mk_46 rfl ⟨rfl, rfl⟩ ck_46 wd_662 wd_663 wd_664 rfl (by decide +kernel), zg_callV _ _ _ _⟩, trivial⟩,
  ⟨⟨zs_zeq (off := 6) (q := 45) (by decide +kernel) rfl (by decide), zg_zeq _⟩, ⟨zs_iload (by decide +kernel), zg_iload _⟩, ⟨zs_iret (by decide +kernel) rfl, zg_iret⟩, trivial⟩,
  ⟨⟨zs_iload_n (k := 3) rfl (by decide +kernel), zg_iload _⟩, ⟨zs_aload_n (k := 0) rfl (by decide +kernel), zg_aload _⟩, ⟨zs_getR (ci := 7) (k := 3) (C := RX7) (T := TX7) (N := 11) rfl (by decide) rfl wd_284 (by decide +kernel), zg_getR _ _⟩, ⟨zs_iload (by decide +kernel), zg_iload _⟩, ⟨zs_callV (ci := 2) (C := RX2) (T := TX2) (N := 14) (n := 1) rfl mk_42 rfl ⟨rfl, rfl⟩ ck_42 wd_667 wd_465 wd_466 rfl (by decide +kernel), zg_callV _ _ _ _⟩, trivial⟩,
  ⟨⟨zs_iadd (by decide +kernel), zg_ibin _⟩, ⟨zs_istore_n (k := 3) rfl (by decide +kernel), zg_istore _⟩, ⟨zs_iinc (n := 1) (by decide +kernel) (by decide), zg_iinc _ _⟩, ⟨zs_goto (off := (-41)) (q := 19) (by decide +kernel) rfl (by decide), zg_jump _⟩, trivial⟩,
  ⟨⟨zs_bipush (n := (-9)) (by decide +kernel) (by decide), zg_push _⟩, ⟨zs_iret (by decide +kernel) rfl, zg_iret⟩, trivial⟩, trivial⟩
-- NeverTogether.meets(I)I
def tb_115 : List zz_B := [[(1, zi_iload 1), (3, zi_callS 149 1 1)],
  [(3, zi_zne 2), (1, zi_push (.int (-1))), (1, zi_iret)],
  [(1, zi_aload 0), (3, zi_getR 7 4), (1, zi_aload 0), (3, zi_getR 7 3), (1, zi_iload 1), (1, zi_aload 0), (3, zi_getR 7 3), (1, zi_iload 1), (3, zi_callV 2 43 2 3)],
  [(3, zi_callV 4 62 4 4)],
  [(1, zi_aload 0), (1, zi_aload 0), (3, zi_getR 7 4), (3, zi_callV 4 69 1 5)],
  [(3, zi_putI 7 10), (1, zi_aload 0), (3, zi_getR 7 4), (3, zi_callV 4 68 1 6)],
  [(1, zi_iret)]]
def pc_115 : List Nat := [0, 4, 9, 26, 29, 37, 47]
set_option maxRecDepth 20000 in
theorem sa_115 : zz_SA zz_mt RX7 yX7_meets cX7_meets (some .int) 2 pc_115 pc_115 tb_115 := ⟨⟨⟨zs_iload_n (k := 1) rfl (by decide +kernel), zg_iload _⟩, ⟨zs_callS (n := 1) mk_149 ⟨rfl, rfl⟩ ck_149 wd_647 wd_648 wd_69 rfl (by decide +kernel), zg_callS _ _ _⟩, trivial⟩,
  ⟨⟨zs_zne (off := 5) (q := 9) (by decide +kernel) rfl (by decide), zg_zne _⟩, ⟨zs_iconst (n := (-1)) (by decide +kernel) (by decide), zg_push _⟩, ⟨zs_iret (by decide +kernel) rfl, zg_iret⟩, trivial⟩,
  ⟨⟨zs_aload_n (k := 0) rfl (by decide +kernel), zg_aload _⟩, ⟨zs_getR (ci := 7) (k := 4) (C := RX7) (T := TX7) (N := 11) rfl (by decide) rfl wd_285 (by decide +kernel), zg_getR _ _⟩, ⟨zs_aload_n (k := 0) rfl (by decide +kernel), zg_aload _⟩, ⟨zs_getR (ci := 7) (k := 3) (C := RX7) (T := TX7) (N := 11) rfl (by decide) rfl wd_284 (by decide +kernel), zg_getR _ _⟩, ⟨zs_iload_n (k := 1) rfl (by decide +kernel), zg_iload _⟩, ⟨zs_aload_n (k := 0) rfl (by decide +kernel), zg_aload _⟩, ⟨zs_getR (ci := 7) (k := 3) (C := RX7) (T := TX7) (N := 11) rfl (by decide) rfl wd_284 (by decide +kernel), zg_getR _ _⟩, ⟨zs_iload_n (k := 1) rfl (by decide +kernel), zg_iload _⟩, ⟨zs_callV (ci := 2) (C := RX2) (T := TX2) (N := 14) (n := 1) rfl mk_43 rfl ⟨rfl, rfl⟩ ck_43 wd_650 wd_651 wd_652 rfl (by decide +kernel), zg_callV _ _ _ _⟩, trivial⟩,
  ⟨⟨zs_callV (ci := 4) (C := RX4) (T := TX4) (N := 2) (n := 3) rfl mk_62 rfl ⟨rfl, rfl⟩ ck_62 wd_550 wd_551 wd_552 rfl (by decide +kernel), zg_callV _ _ _ _⟩, trivial⟩,
  ⟨⟨zs_aload_n (k := 0) rfl (by decide +kernel), zg_aload _⟩, ⟨zs_aload_n (k := 0) rfl (by decide +kernel), zg_aload _⟩, ⟨zs_getR (ci := 7) (k := 4) (C := RX7) (T := TX7) (N := 11) rfl (by decide) rfl wd_285 (by decide +kernel), zg_getR _ _⟩, ⟨zs_callV (ci := 4) (C := RX4) (T := TX4) (N := 2) (n := 0) rfl mk_69 rfl ⟨rfl, rfl⟩ ck_69 wd_672 wd_673 wd_674 rfl (by decide +kernel), zg_callV _ _ _ _⟩, trivial⟩,
  ⟨⟨zs_putI (ci := 7) (k := 10) (C := RX7) (T := TX7) (N := 11) rfl (by decide) rfl rfl wd_291 (by decide +kernel), zg_putI _ _⟩, ⟨zs_aload_n (k := 0) rfl (by decide +kernel), zg_aload _⟩, ⟨zs_getR (ci := 7) (k := 4) (C := RX7) (T := TX7) (N := 11) rfl (by decide) rfl wd_285 (by decide +kernel), zg_getR _ _⟩, ⟨zs_callV (ci := 4) (C := RX4) (T := TX4) (N := 2) (n := 0) rfl mk_68 rfl ⟨rfl, rfl⟩ ck_68 wd_602 wd_603 wd_604 rfl (by decide +kernel), zg_callV _ _ _ _⟩, trivial⟩,
  ⟨⟨zs_iret (by decide +kernel) rfl, zg_iret⟩, trivial⟩, trivial⟩
-- NeverTogether.soon()I
def tb_116 : List zz_B := [[(1, zi_push (.int 0)), (1, zi_istore 1), (1, zi_push (.int 0)), (1, zi_istore 2), (0, zi_jump 1)],
  [(1, zi_iload 2), (3, zi_push (.int 420)), (3, zi_cgt 7), (1, zi_aload 0), (3, zi_getR 7 4), (1, zi_aload 0), (3, zi_getR 7 3), (1, zi_iload 2), (1, zi_iload 1), (3, zi_callV 4 62 4 2)],
  [(1, zi_aload 0), (3, zi_getR 7 4), (3, zi_callV 4 65 1 3)],
  [(3, zi_zeq 5), (1, zi_aload 0), (1, zi_aload 0), (3, zi_getR 7 4), (3, zi_callV 4 70 1 4)],
  [(3, zi_putI 7 10), (1, zi_iload 2), (1, zi_iret)],
  [(1, zi_iload 1), (1, zi_aload 0), (3, zi_getR 7 3), (1, zi_iload 2), (3, zi_callV 2 42 2 6)],
  [(1, zi_ibin (fun x y => x + y)), (1, zi_istore 1), (3, zi_iinc 2 1), (3, zi_jump 1)],
  [(2, zi_push (.int (-9))), (1, zi_iret)]]
def pc_116 : List Nat := [0, 4, 24, 31, 42, 47, 56, 64]
set_option maxRecDepth 20000 in
theorem sa_116 : zz_SA zz_mt RX7 yX7_soon cX7_soon (some .int) 3 pc_116 pc_116 tb_116 := ⟨⟨⟨zs_iconst (n := 0) (by decide +kernel) (by decide), zg_push _⟩, ⟨zs_istore_n (k := 1) rfl (by decide +kernel), zg_istore _⟩, ⟨zs_iconst (n := 0) (by decide +kernel) (by decide), zg_push _⟩, ⟨zs_istore_n (k := 2) rfl (by decide +kernel), zg_istore _⟩, ⟨zs_jump rfl, zg_jump _⟩, trivial⟩,
  ⟨⟨zs_iload_n (k := 2) rfl (by decide +kernel), zg_iload _⟩, ⟨zs_sipush (n := 420) (by decide +kernel) (by decide), zg_push _⟩, ⟨zs_cgt (off := 56) (q := 64) (by decide +kernel) rfl (by decide), zg_cgt _⟩, ⟨zs_aload_n (k := 0) rfl (by decide +kernel), zg_aload _⟩, ⟨zs_getR (ci := 7) (k := 4) (C := RX7) (T := TX7) (N := 11) rfl (by decide) rfl wd_285 (by decide +kernel), zg_getR _ _⟩, ⟨zs_aload_n (k := 0) rfl (by decide +kernel), zg_aload _⟩, ⟨zs_getR (ci := 7) (k := 3) (C := RX7) (T := TX7) (N := 11) rfl (by decide) rfl wd_284 (by decide +kernel), zg_getR _ _⟩, ⟨zs_iload_n (k := 2) rfl (by decide +kernel), zg_iload _⟩, ⟨zs_iload_n (k := 1) rfl (by decide +kernel), zg_iload _⟩, ⟨zs_callV (ci := 4) (C := RX4) (T := TX4) (N := 2) (n := 3) rfl mk_62 rfl ⟨rfl, rfl⟩ ck_62 wd_550 wd_551 wd_552 rfl (by decide +kernel), zg_callV _ _ _ _⟩, trivial⟩,
  ⟨⟨zs_aload_n (k := 0) rfl (by decide +kernel), zg_aload _⟩, ⟨zs_getR (ci := 7) (k := 4) (C := RX7) (T := TX7) (N := 11) rfl (by decide) rfl wd_285 (by decide +kernel), zg_getR _ _⟩, ⟨zs_callV (ci := 4) (C := RX4) (T := TX4) (N := 2) (n := 0) rfl mk_65 rfl ⟨rfl, rfl⟩ ck_65 wd_680 wd_681 wd_682 rfl (by decide +kernel), zg_callV _ _ _ _⟩, trivial⟩,
  ⟨⟨zs_zeq (off := 16) (q := 47) (by decide +kernel) rfl (by decide), zg_zeq _⟩, ⟨zs_aload_n (k := 0) rfl (by decide +kernel), zg_aload _⟩, ⟨zs_aload_n (k := 0) rfl (by decide +kernel), zg_aload _⟩, ⟨zs_getR (ci := 7) (k := 4) (C := RX7) (T := TX7) (N := 11) rfl (by decide) rfl wd_285 (by decide +kernel), zg_getR _ _⟩, ⟨zs_callV (ci := 4) (C := RX4) (T := TX4) (N := 2) (n := 0) rfl mk_70 rfl ⟨rfl, rfl⟩ ck_70 wd_684 wd_685 wd_686 rfl (by decide +kernel), zg_callV _ _ _ _⟩, trivial⟩,
  ⟨⟨zs_putI (ci := 7) (k := 10) (C := RX7) (T := TX7) (N := 11) rfl (by decide) rfl rfl wd_291 (by decide +kernel), zg_putI _ _⟩, ⟨zs_iload_n (k := 2) rfl (by decide +kernel), zg_iload _⟩, ⟨zs_iret (by decide +kernel) rfl, zg_iret⟩, trivial⟩,
  ⟨⟨zs_iload_n (k := 1) rfl (by decide +kernel), zg_iload _⟩, ⟨zs_aload_n (k := 0) rfl (by decide +kernel), zg_aload _⟩, ⟨zs_getR (ci := 7) (k := 3) (C := RX7) (T := TX7) (N := 11) rfl (by decide) rfl wd_284 (by decide +kernel), zg_getR _ _⟩, ⟨zs_iload_n (k := 2) rfl (by decide +kernel), zg_iload _⟩, ⟨zs_callV (ci := 2) (C := RX2) (T := TX2) (N := 14) (n := 1) rfl mk_42 rfl ⟨rfl, rfl⟩ ck_42 wd_667 wd_465 wd_466 rfl (by decide +kernel), zg_callV _ _ _ _⟩, trivial⟩,
  ⟨⟨zs_iadd (by decide +kernel), zg_ibin _⟩, ⟨zs_istore_n (k := 1) rfl (by decide +kernel), zg_istore _⟩, ⟨zs_iinc (n := 1) (by decide +kernel) (by decide), zg_iinc _ _⟩, ⟨zs_goto (off := (-57)) (q := 4) (by decide +kernel) rfl (by decide), zg_jump _⟩, trivial⟩,
  ⟨⟨zs_bipush (n := (-9)) (by decide +kernel) (by decide), zg_push _⟩, ⟨zs_iret (by decide +kernel) rfl, zg_iret⟩, trivial⟩, trivial⟩
-- NeverTogether.often(III)I
def tb_117 : List zz_B := [[(1, zi_aload 0), (3, zi_getR 7 3), (1, zi_iload 1), (1, zi_iload 2), (3, zi_callV 2 32 3 1)],
  [(3, zi_zeq 3), (1, zi_iload 3), (3, zi_callS 149 1 2)],
  [(3, zi_zne 4), (0, zi_jump 3)],
  [(1, zi_push (.int (-1))), (1, zi_iret)],
  [(1, zi_push (.int 0)), (2, zi_istore 4), (1, zi_push (.int 0)), (2, zi_istore 5), (1, zi_push (.int 0)), (2, zi_istore 6), (0, zi_jump 5)],
  [(2, zi_iload 6), (1, zi_iload 3), (3, zi_cgt 9), (1, zi_aload 0), (3, zi_getR 7 3), (1, zi_iload 1), (1, zi_iload 2), (2, zi_iload 6), (2, zi_iload 4), (3, zi_callV 2 46 5 6)],
  [(3, zi_zeq 7), (3, zi_iinc 5 1), (0, zi_jump 7)],
  [(2, zi_iload 4), (1, zi_aload 0), (3, zi_getR 7 3), (2, zi_iload 6), (3, zi_callV 2 42 2 8)],
  [(1, zi_ibin (fun x y => x + y)), (2, zi_istore 4), (3, zi_iinc 6 1), (3, zi_jump 5)],
  [(2, zi_iload 5), (1, zi_iret)]]
def pc_117 : List Nat := [0, 9, 16, 19, 21, 30, 49, 55, 66, 75]
set_option maxRecDepth 20000 in
theorem sa_117 : zz_SA zz_mt RX7 yX7_often cX7_often (some .int) 7 pc_117 pc_117 tb_117 := ⟨⟨⟨zs_aload_n (k := 0) rfl (by decide +kernel), zg_aload _⟩, ⟨zs_getR (ci := 7) (k := 3) (C := RX7) (T := TX7) (N := 11) rfl (by decide) rfl wd_284 (by decide +kernel), zg_getR _ _⟩, ⟨zs_iload_n (k := 1) rfl (by decide +kernel), zg_iload _⟩, ⟨zs_iload_n (k := 2) rfl (by decide +kernel), zg_iload _⟩, ⟨zs_callV (ci := 2) (C := RX2) (T := TX2) (N := 14) (n := 2) rfl mk_32 rfl ⟨rfl, rfl⟩ ck_32 wd_658 wd_659 wd_660 rfl (by decide +kernel), zg_callV _ _ _ _⟩, trivial⟩,
  ⟨⟨zs_zeq (off := 10) (q := 19) (by decide +kernel) rfl (by decide), zg_zeq _⟩, ⟨zs_iload_n (k := 3) rfl (by decide +kernel), zg_iload _⟩, ⟨zs_callS (n := 1) mk_149 ⟨rfl, rfl⟩ ck_149 wd_647 wd_648 wd_69 rfl (by decide +kernel), zg_callS _ _ _⟩, trivial⟩,
  ⟨⟨zs_zne (off := 5) (q := 21) (by decide +kernel) rfl (by decide), zg_zne _⟩, ⟨zs_jump rfl, zg_jump _⟩, trivial⟩,
  ⟨⟨zs_iconst (n := (-1)) (by decide +kernel) (by decide), zg_push _⟩, ⟨zs_iret (by decide +kernel) rfl, zg_iret⟩, trivial⟩,
  ⟨⟨zs_iconst (n := 0) (by decide +kernel) (by decide), zg_push _⟩, ⟨zs_istore (by decide +kernel), zg_istore _⟩, ⟨zs_iconst (n := 0) (by decide +kernel) (by decide), zg_push _⟩, ⟨zs_istore (by decide +kernel), zg_istore _⟩, ⟨zs_iconst (n := 0) (by decide +kernel) (by decide), zg_push _⟩, ⟨zs_istore (by decide +kernel), zg_istore _⟩, ⟨zs_jump rfl, zg_jump _⟩, trivial⟩,
  ⟨⟨zs_iload (by decide +kernel), zg_iload _⟩, ⟨zs_iload_n (k := 3) rfl (by decide +kernel), zg_iload _⟩, ⟨zs_cgt (off := 42) (q := 75) (by decide +kernel) rfl (by decide), zg_cgt _⟩, ⟨zs_aload_n (k := 0) rfl (by decide +kernel), zg_aload _⟩, ⟨zs_getR (ci := 7) (k := 3) (C := RX7) (T := TX7) (N := 11) rfl (by decide) rfl wd_284 (by decide +kernel), zg_getR _ _⟩, ⟨zs_iload_n (k := 1) rfl (by decide +kernel), zg_iload _⟩, ⟨zs_iload_n (k := 2) rfl (by decide +kernel), zg_iload _⟩, ⟨zs_iload (by decide +kernel), zg_iload _⟩, ⟨zs_iload (by decide +kernel), zg_iload _⟩, ⟨zs_callV (ci := 2) (C := RX2) (T := TX2) (N := 14) (n := 4) rfl mk_46 rfl ⟨rfl, rfl⟩ ck_46 wd_662 wd_663 wd_664 rfl (by decide +kernel), zg_callV _ _ _ _⟩, trivial⟩,
  ⟨⟨zs_zeq (off := 6) (q := 55) (by decide +kernel) rfl (by decide), zg_zeq _⟩, ⟨zs_iinc (n := 1) (by decide +kernel) (by decide), zg_iinc _ _⟩, ⟨zs_jump rfl, zg_jump _⟩, trivial⟩,
  ⟨⟨zs_iload (by decide +kernel), zg_iload _⟩, ⟨zs_aload_n (k := 0) rfl (by decide +kernel), zg_aload _⟩, ⟨zs_getR (ci := 7) (k := 3) (C := RX7) (T := TX7) (N := 11) rfl (by decide) rfl wd_284 (by decide +kernel), zg_getR _ _⟩, ⟨zs_iload (by decide +kernel), zg_iload _⟩, ⟨zs_callV (ci := 2) (C := RX2) (T := TX2) (N := 14) (n := 1) rfl mk_42 rfl ⟨rfl, rfl⟩ ck_42 wd_667 wd_465 wd_466 rfl (by decide +kernel), zg_callV _ _ _ _⟩, trivial⟩,
  ⟨⟨zs_iadd (by decide +kernel), zg_ibin _⟩, ⟨zs_istore (by decide +kernel), zg_istore _⟩, ⟨zs_iinc (n := 1) (by decide +kernel) (by decide), zg_iinc _ _⟩, ⟨zs_goto (off := (-42)) (q := 30) (by decide +kernel) rfl (by decide), zg_jump _⟩, trivial⟩,
  ⟨⟨zs_iload (by decide +kernel), zg_iload _⟩, ⟨zs_iret (by decide +kernel) rfl, zg_iret⟩, trivial⟩, trivial⟩
-- NeverTogether.sounds(I)I
def tb_118 : List zz_B := [[(1, zi_iload 1), (3, zi_callS 149 1 1)],
  [(3, zi_zne 2), (1, zi_push (.int (-1))), (1, zi_iret)],
  [(1, zi_aload 0), (3, zi_getR 7 4), (1, zi_aload 0), (3, zi_getR 7 3), (1, zi_iload 1), (1, zi_aload 0), (3, zi_getR 7 3), (1, zi_iload 1), (3, zi_callV 2 43 2 3)],
  [(3, zi_callV 4 62 4 4)],
  [(1, zi_aload 0), (3, zi_getR 7 4), (3, zi_callV 4 66 1 5)],
  [(3, zi_callS 10 1 6)],
  [(1, zi_iret)]]
def pc_118 : List Nat := [0, 4, 9, 26, 29, 36, 39]
set_option maxRecDepth 20000 in
theorem sa_118 : zz_SA zz_mt RX7 yX7_sounds cX7_sounds (some .int) 2 pc_118 pc_118 tb_118 := ⟨⟨⟨zs_iload_n (k := 1) rfl (by decide +kernel), zg_iload _⟩, ⟨zs_callS (n := 1) mk_149 ⟨rfl, rfl⟩ ck_149 wd_647 wd_648 wd_69 rfl (by decide +kernel), zg_callS _ _ _⟩, trivial⟩,
  ⟨⟨zs_zne (off := 5) (q := 9) (by decide +kernel) rfl (by decide), zg_zne _⟩, ⟨zs_iconst (n := (-1)) (by decide +kernel) (by decide), zg_push _⟩, ⟨zs_iret (by decide +kernel) rfl, zg_iret⟩, trivial⟩,
  ⟨⟨zs_aload_n (k := 0) rfl (by decide +kernel), zg_aload _⟩, ⟨zs_getR (ci := 7) (k := 4) (C := RX7) (T := TX7) (N := 11) rfl (by decide) rfl wd_285 (by decide +kernel), zg_getR _ _⟩, ⟨zs_aload_n (k := 0) rfl (by decide +kernel), zg_aload _⟩, ⟨zs_getR (ci := 7) (k := 3) (C := RX7) (T := TX7) (N := 11) rfl (by decide) rfl wd_284 (by decide +kernel), zg_getR _ _⟩, ⟨zs_iload_n (k := 1) rfl (by decide +kernel), zg_iload _⟩, ⟨zs_aload_n (k := 0) rfl (by decide +kernel), zg_aload _⟩, ⟨zs_getR (ci := 7) (k := 3) (C := RX7) (T := TX7) (N := 11) rfl (by decide) rfl wd_284 (by decide +kernel), zg_getR _ _⟩, ⟨zs_iload_n (k := 1) rfl (by decide +kernel), zg_iload _⟩, ⟨zs_callV (ci := 2) (C := RX2) (T := TX2) (N := 14) (n := 1) rfl mk_43 rfl ⟨rfl, rfl⟩ ck_43 wd_650 wd_651 wd_652 rfl (by decide +kernel), zg_callV _ _ _ _⟩, trivial⟩,
  ⟨⟨zs_callV (ci := 4) (C := RX4) (T := TX4) (N := 2) (n := 3) rfl mk_62 rfl ⟨rfl, rfl⟩ ck_62 wd_550 wd_551 wd_552 rfl (by decide +kernel), zg_callV _ _ _ _⟩, trivial⟩,
  ⟨⟨zs_aload_n (k := 0) rfl (by decide +kernel), zg_aload _⟩, ⟨zs_getR (ci := 7) (k := 4) (C := RX7) (T := TX7) (N := 11) rfl (by decide) rfl wd_285 (by decide +kernel), zg_getR _ _⟩, ⟨zs_callV (ci := 4) (C := RX4) (T := TX4) (N := 2) (n := 0) rfl mk_66 rfl ⟨rfl, rfl⟩ ck_66 wd_696 wd_697 wd_698 rfl (by decide +kernel), zg_callV _ _ _ _⟩, trivial⟩,
  ⟨⟨zs_callS (n := 1) mk_10 ⟨rfl, rfl⟩ ck_10 wd_700 wd_701 wd_80 rfl (by decide +kernel), zg_callS _ _ _⟩, trivial⟩,
  ⟨⟨zs_iret (by decide +kernel) rfl, zg_iret⟩, trivial⟩, trivial⟩
-- NeverTogether.room(II)I
def tb_119 : List zz_B := [[(1, zi_iload 1), (3, zi_callS 149 1 1)],
  [(3, zi_zeq 2), (1, zi_iload 2), (1, zi_push (.int 1)), (3, zi_clt 2), (1, zi_iload 2), (2, zi_push (.int 9)), (3, zi_cle 3), (0, zi_jump 2)],
  [(1, zi_push (.int (-1))), (1, zi_iret)],
  [(1, zi_aload 0), (3, zi_getR 7 4), (1, zi_aload 0), (3, zi_getR 7 3), (1, zi_iload 1), (1, zi_aload 0), (3, zi_getR 7 3), (1, zi_iload 1), (3, zi_callV 2 43 2 4)],
  [(3, zi_callV 4 62 4 5)],
  [(3, zi_push (.long 1152921504606846975)), (1, zi_aload 0), (3, zi_getR 7 4), (3, zi_callV 4 66 1 6)],
  [(3, zi_push (.long (-1))), (1, zi_lbin (fun x y => x ^^^ y)), (1, zi_lbin (fun x y => x &&& y)), (1, zi_lstore 3), (2, zi_push (.int (-9))), (2, zi_istore 5), (1, zi_push (.int 0)), (2, zi_istore 6), (2, zi_push (.int 59)), (2, zi_istore 7), (0, zi_jump 7)],
  [(2, zi_iload 7), (3, zi_zlt 10), (2, zi_iload 7), (1, zi_iload 2), (3, zi_callS 154 2 8)],
  [(1, zi_lload 3), (3, zi_push (.long (-1))), (1, zi_lbin (fun x y => x ^^^ y)), (1, zi_lbin (fun x y => x &&& y)), (1, zi_push (.long 0)), (1, zi_lcmp), (3, zi_zne 9), (2, zi_iload 7), (2, zi_istore 5), (3, zi_iinc 6 1), (0, zi_jump 9)],
  [(3, zi_iinc 7 (-1)), (3, zi_jump 7)],
  [(1, zi_aload 0), (2, zi_iload 6), (3, zi_putI 7 10), (2, zi_iload 5), (1, zi_iret)]]
def pc_119 : List Nat := [0, 4, 18, 20, 37, 40, 50, 67, 78, 96, 102]
set_option maxRecDepth 20000 in
theorem sa_119 : zz_SA zz_mt RX7 yX7_room cX7_room (some .int) 8 pc_119 pc_119 tb_119 := ⟨⟨⟨zs_iload_n (k := 1) rfl (by decide +kernel), zg_iload _⟩, ⟨zs_callS (n := 1) mk_149 ⟨rfl, rfl⟩ ck_149 wd_647 wd_648 wd_69 rfl (by decide +kernel), zg_callS _ _ _⟩, trivial⟩,
  ⟨⟨zs_zeq (off := 14) (q := 18) (by decide +kernel) rfl (by decide), zg_zeq _⟩, ⟨zs_iload_n (k := 2) rfl (by decide +kernel), zg_iload _⟩, ⟨zs_iconst (n := 1) (by decide +kernel) (by decide), zg_push _⟩, ⟨zs_clt (off := 9) (q := 18) (by decide +kernel) rfl (by decide), zg_clt _⟩, ⟨zs_iload_n (k := 2) rfl (by decide +kernel), zg_iload _⟩, ⟨zs_bipush (n := 9) (by decide +kernel) (by decide), zg_push _⟩, ⟨zs_cle (off := 5) (q := 20) (by decide +kernel) rfl (by decide), zg_cle _⟩, ⟨zs_jump rfl, zg_jump _⟩, trivial⟩,
  ⟨⟨zs_iconst (n := (-1)) (by decide +kernel) (by decide), zg_push _⟩, ⟨zs_iret (by decide +kernel) rfl, zg_iret⟩, trivial⟩,
  ⟨⟨zs_aload_n (k := 0) rfl (by decide +kernel), zg_aload _⟩, ⟨zs_getR (ci := 7) (k := 4) (C := RX7) (T := TX7) (N := 11) rfl (by decide) rfl wd_285 (by decide +kernel), zg_getR _ _⟩, ⟨zs_aload_n (k := 0) rfl (by decide +kernel), zg_aload _⟩, ⟨zs_getR (ci := 7) (k := 3) (C := RX7) (T := TX7) (N := 11) rfl (by decide) rfl wd_284 (by decide +kernel), zg_getR _ _⟩, ⟨zs_iload_n (k := 1) rfl (by decide +kernel), zg_iload _⟩, ⟨zs_aload_n (k := 0) rfl (by decide +kernel), zg_aload _⟩, ⟨zs_getR (ci := 7) (k := 3) (C := RX7) (T := TX7) (N := 11) rfl (by decide) rfl wd_284 (by decide +kernel), zg_getR _ _⟩, ⟨zs_iload_n (k := 1) rfl (by decide +kernel), zg_iload _⟩, ⟨zs_callV (ci := 2) (C := RX2) (T := TX2) (N := 14) (n := 1) rfl mk_43 rfl ⟨rfl, rfl⟩ ck_43 wd_650 wd_651 wd_652 rfl (by decide +kernel), zg_callV _ _ _ _⟩, trivial⟩,
  ⟨⟨zs_callV (ci := 4) (C := RX4) (T := TX4) (N := 2) (n := 3) rfl mk_62 rfl ⟨rfl, rfl⟩ ck_62 wd_550 wd_551 wd_552 rfl (by decide +kernel), zg_callV _ _ _ _⟩, trivial⟩,
  ⟨⟨zs_ldc2 (i := 242) wd_564 (by decide +kernel), zg_push _⟩, ⟨zs_aload_n (k := 0) rfl (by decide +kernel), zg_aload _⟩, ⟨zs_getR (ci := 7) (k := 4) (C := RX7) (T := TX7) (N := 11) rfl (by decide) rfl wd_285 (by decide +kernel), zg_getR _ _⟩, ⟨zs_callV (ci := 4) (C := RX4) (T := TX4) (N := 2) (n := 0) rfl mk_66 rfl ⟨rfl, rfl⟩ ck_66 wd_696 wd_697 wd_698 rfl (by decide +kernel), zg_callV _ _ _ _⟩, trivial⟩,
  ⟨⟨zs_ldc2 (i := 244) wd_710 (by decide +kernel), zg_push _⟩, ⟨zs_lxor (by decide +kernel), zg_lbin _⟩, ⟨zs_land (by decide +kernel), zg_lbin _⟩, ⟨zs_lstore_n (k := 3) rfl (by decide +kernel), zg_lstore _⟩, ⟨zs_bipush (n := (-9)) (by decide +kernel) (by decide), zg_push _⟩, ⟨zs_istore (by decide +kernel), zg_istore _⟩, ⟨zs_iconst (n := 0) (by decide +kernel) (by decide), zg_push _⟩, ⟨zs_istore (by decide +kernel), zg_istore _⟩, ⟨zs_bipush (n := 59) (by decide +kernel) (by decide), zg_push _⟩, ⟨zs_istore (by decide +kernel), zg_istore _⟩, ⟨zs_jump rfl, zg_jump _⟩, trivial⟩,
  ⟨⟨zs_iload (by decide +kernel), zg_iload _⟩, ⟨zs_zlt (off := 33) (q := 102) (by decide +kernel) rfl (by decide), zg_zlt _⟩, ⟨zs_iload (by decide +kernel), zg_iload _⟩, ⟨zs_iload_n (k := 2) rfl (by decide +kernel), zg_iload _⟩, ⟨zs_callS (n := 2) mk_154 ⟨rfl, rfl⟩ ck_154 wd_711 wd_559 wd_69 rfl (by decide +kernel), zg_callS _ _ _⟩, trivial⟩,
  ⟨⟨zs_lload_n (k := 3) rfl (by decide +kernel), zg_lload _⟩, ⟨zs_ldc2 (i := 244) wd_710 (by decide +kernel), zg_push _⟩, ⟨zs_lxor (by decide +kernel), zg_lbin _⟩, ⟨zs_land (by decide +kernel), zg_lbin _⟩, ⟨zs_lconst (n := 0) (by decide +kernel) (by decide), zg_push _⟩, ⟨zs_lcmp (by decide +kernel), zg_lcmp⟩, ⟨zs_zne (off := 10) (q := 96) (by decide +kernel) rfl (by decide), zg_zne _⟩, ⟨zs_iload (by decide +kernel), zg_iload _⟩, ⟨zs_istore (by decide +kernel), zg_istore _⟩, ⟨zs_iinc (n := 1) (by decide +kernel) (by decide), zg_iinc _ _⟩, ⟨zs_jump rfl, zg_jump _⟩, trivial⟩,
  ⟨⟨zs_iinc (n := (-1)) (by decide +kernel) (by decide), zg_iinc _ _⟩, ⟨zs_goto (off := (-32)) (q := 67) (by decide +kernel) rfl (by decide), zg_jump _⟩, trivial⟩,
  ⟨⟨zs_aload_n (k := 0) rfl (by decide +kernel), zg_aload _⟩, ⟨zs_iload (by decide +kernel), zg_iload _⟩, ⟨zs_putI (ci := 7) (k := 10) (C := RX7) (T := TX7) (N := 11) rfl (by decide) rfl rfl wd_291 (by decide +kernel), zg_putI _ _⟩, ⟨zs_iload (by decide +kernel), zg_iload _⟩, ⟨zs_iret (by decide +kernel) rfl, zg_iret⟩, trivial⟩, trivial⟩
-- NeverTogether.right(III)I
def tb_120 : List zz_B := [[(1, zi_aload 0), (3, zi_getR 7 3), (1, zi_iload 1), (3, zi_callV 2 31 2 1)],
  [(3, zi_zeq 4), (1, zi_iload 2), (3, zi_callS 150 1 2)],
  [(3, zi_zeq 4), (1, zi_iload 3), (3, zi_callS 149 1 3)],
  [(3, zi_zne 5), (0, zi_jump 4)],
  [(1, zi_push (.int (-1))), (1, zi_iret)],
  [(1, zi_push (.int 0)), (2, zi_istore 4), (1, zi_push (.int 0)), (2, zi_istore 5), (1, zi_push (.int 0)), (2, zi_istore 6), (0, zi_jump 6)],
  [(2, zi_iload 6), (1, zi_iload 3), (3, zi_cgt 10), (1, zi_aload 0), (3, zi_getR 7 3), (1, zi_iload 1), (2, zi_iload 6), (2, zi_iload 4), (3, zi_callV 2 44 4 7)],
  [(1, zi_iload 2), (3, zi_cne 8), (3, zi_iinc 5 1), (0, zi_jump 8)],
  [(2, zi_iload 4), (1, zi_aload 0), (3, zi_getR 7 3), (2, zi_iload 6), (3, zi_callV 2 42 2 9)],
  [(1, zi_ibin (fun x y => x + y)), (2, zi_istore 4), (3, zi_iinc 6 1), (3, zi_jump 6)],
  [(2, zi_iload 5), (1, zi_iret)]]
def pc_120 : List Nat := [0, 8, 15, 22, 25, 27, 36, 54, 61, 72, 81]
set_option maxRecDepth 20000 in
theorem sa_120 : zz_SA zz_mt RX7 yX7_right cX7_right (some .int) 7 pc_120 pc_120 tb_120 := ⟨⟨⟨zs_aload_n (k := 0) rfl (by decide +kernel), zg_aload _⟩, ⟨zs_getR (ci := 7) (k := 3) (C := RX7) (T := TX7) (N := 11) rfl (by decide) rfl wd_284 (by decide +kernel), zg_getR _ _⟩, ⟨zs_iload_n (k := 1) rfl (by decide +kernel), zg_iload _⟩, ⟨zs_callV (ci := 2) (C := RX2) (T := TX2) (N := 14) (n := 1) rfl mk_31 rfl ⟨rfl, rfl⟩ ck_31 wd_492 wd_477 wd_478 rfl (by decide +kernel), zg_callV _ _ _ _⟩, trivial⟩,
  ⟨⟨zs_zeq (off := 17) (q := 25) (by decide +kernel) rfl (by decide), zg_zeq _⟩, ⟨zs_iload_n (k := 2) rfl (by decide +kernel), zg_iload _⟩, ⟨zs_callS (n := 1) mk_150 ⟨rfl, rfl⟩ ck_150 wd_716 wd_717 wd_69 rfl (by decide +kernel), zg_callS _ _ _⟩, trivial⟩,
  ⟨⟨zs_zeq (off := 10) (q := 25) (by decide +kernel) rfl (by decide), zg_zeq _⟩, ⟨zs_iload_n (k := 3) rfl (by decide +kernel), zg_iload _⟩, ⟨zs_callS (n := 1) mk_149 ⟨rfl, rfl⟩ ck_149 wd_647 wd_648 wd_69 rfl (by decide +kernel), zg_callS _ _ _⟩, trivial⟩,
  ⟨⟨zs_zne (off := 5) (q := 27) (by decide +kernel) rfl (by decide), zg_zne _⟩, ⟨zs_jump rfl, zg_jump _⟩, trivial⟩,
  ⟨⟨zs_iconst (n := (-1)) (by decide +kernel) (by decide), zg_push _⟩, ⟨zs_iret (by decide +kernel) rfl, zg_iret⟩, trivial⟩,
  ⟨⟨zs_iconst (n := 0) (by decide +kernel) (by decide), zg_push _⟩, ⟨zs_istore (by decide +kernel), zg_istore _⟩, ⟨zs_iconst (n := 0) (by decide +kernel) (by decide), zg_push _⟩, ⟨zs_istore (by decide +kernel), zg_istore _⟩, ⟨zs_iconst (n := 0) (by decide +kernel) (by decide), zg_push _⟩, ⟨zs_istore (by decide +kernel), zg_istore _⟩, ⟨zs_jump rfl, zg_jump _⟩, trivial⟩,
  ⟨⟨zs_iload (by decide +kernel), zg_iload _⟩, ⟨zs_iload_n (k := 3) rfl (by decide +kernel), zg_iload _⟩, ⟨zs_cgt (off := 42) (q := 81) (by decide +kernel) rfl (by decide), zg_cgt _⟩, ⟨zs_aload_n (k := 0) rfl (by decide +kernel), zg_aload _⟩, ⟨zs_getR (ci := 7) (k := 3) (C := RX7) (T := TX7) (N := 11) rfl (by decide) rfl wd_284 (by decide +kernel), zg_getR _ _⟩, ⟨zs_iload_n (k := 1) rfl (by decide +kernel), zg_iload _⟩, ⟨zs_iload (by decide +kernel), zg_iload _⟩, ⟨zs_iload (by decide +kernel), zg_iload _⟩, ⟨zs_callV (ci := 2) (C := RX2) (T := TX2) (N := 14) (n := 3) rfl mk_44 rfl ⟨rfl, rfl⟩ ck_44 wd_616 wd_473 wd_474 rfl (by decide +kernel), zg_callV _ _ _ _⟩, trivial⟩,
  ⟨⟨zs_iload_n (k := 2) rfl (by decide +kernel), zg_iload _⟩, ⟨zs_cne (off := 6) (q := 61) (by decide +kernel) rfl (by decide), zg_cne _⟩, ⟨zs_iinc (n := 1) (by decide +kernel) (by decide), zg_iinc _ _⟩, ⟨zs_jump rfl, zg_jump _⟩, trivial⟩,
  ⟨⟨zs_iload (by decide +kernel), zg_iload _⟩, ⟨zs_aload_n (k := 0) rfl (by decide +kernel), zg_aload _⟩, ⟨zs_getR (ci := 7) (k := 3) (C := RX7) (T := TX7) (N := 11) rfl (by decide) rfl wd_284 (by decide +kernel), zg_getR _ _⟩, ⟨zs_iload (by decide +kernel), zg_iload _⟩, ⟨zs_callV (ci := 2) (C := RX2) (T := TX2) (N := 14) (n := 1) rfl mk_42 rfl ⟨rfl, rfl⟩ ck_42 wd_667 wd_465 wd_466 rfl (by decide +kernel), zg_callV _ _ _ _⟩, trivial⟩,
  ⟨⟨zs_iadd (by decide +kernel), zg_ibin _⟩, ⟨zs_istore (by decide +kernel), zg_istore _⟩, ⟨zs_iinc (n := 1) (by decide +kernel) (by decide), zg_iinc _ _⟩, ⟨zs_goto (off := (-42)) (q := 36) (by decide +kernel) rfl (by decide), zg_jump _⟩, trivial⟩,
  ⟨⟨zs_iload (by decide +kernel), zg_iload _⟩, ⟨zs_iret (by decide +kernel) rfl, zg_iret⟩, trivial⟩, trivial⟩
-- NeverTogether.apart(II)I
def tb_121 : List zz_B := [[(1, zi_iload 1), (3, zi_zlt 2), (1, zi_iload 1), (2, zi_push (.int 7)), (3, zi_cgt 2), (1, zi_aload 0), (3, zi_getR 7 0), (1, zi_iload 2), (3, zi_callV 6 11 2 1)],
  [(3, zi_zne 3), (0, zi_jump 2)],
  [(1, zi_push (.int (-1))), (1, zi_iret)],
  [(1, zi_aload 0), (3, zi_getR 7 3), (3, zi_getI 2 10), (3, zi_zne 4), (2, zi_push (.int (-4))), (1, zi_iret)],
  [(1, zi_aload 0), (3, zi_getR 7 5), (1, zi_aload 0), (3, zi_getR 7 3), (1, zi_iload 1), (3, zi_callV 3 72 3 5)],
  [(1, zi_aload 0), (3, zi_getR 7 5), (1, zi_push (.int 0)), (3, zi_callV 3 80 2 6)],
  [(3, zi_zne 7), (2, zi_push (.int (-9))), (1, zi_iret)],
  [(1, zi_aload 0), (3, zi_getR 7 0), (1, zi_iload 2), (1, zi_aload 0), (3, zi_getR 7 3), (3, zi_getI 2 10), (1, zi_push (.int 0)), (3, zi_callV 6 18 4 8)],
  [(1, zi_push (.int 0)), (1, zi_istore 3), (0, zi_jump 9)],
  [(1, zi_iload 3), (1, zi_aload 0), (3, zi_getR 7 3), (3, zi_getI 2 10), (3, zi_cge 12), (1, zi_aload 0), (3, zi_getR 7 0), (1, zi_iload 2), (1, zi_iload 3), (1, zi_aload 0), (3, zi_getR 7 5), (1, zi_iload 3), (3, zi_callV 3 84 2 10)],
  [(3, zi_callV 6 17 4 11)],
  [(1, zi_pop), (3, zi_iinc 3 1), (3, zi_jump 9)],
  [(1, zi_aload 0), (3, zi_getR 7 5), (3, zi_callV 3 85 1 13)],
  [(1, zi_iret)]]
def pc_121 : List Nat := [0, 18, 21, 23, 36, 48, 56, 62, 78, 80, 105, 108, 115, 122]
set_option maxRecDepth 20000 in
theorem sa_121 : zz_SA zz_mt RX7 yX7_apart cX7_apart (some .int) 4 pc_121 pc_121 tb_121 := ⟨⟨⟨zs_iload_n (k := 1) rfl (by decide +kernel), zg_iload _⟩, ⟨zs_zlt (off := 20) (q := 21) (by decide +kernel) rfl (by decide), zg_zlt _⟩, ⟨zs_iload_n (k := 1) rfl (by decide +kernel), zg_iload _⟩, ⟨zs_bipush (n := 7) (by decide +kernel) (by decide), zg_push _⟩, ⟨zs_cgt (off := 14) (q := 21) (by decide +kernel) rfl (by decide), zg_cgt _⟩, ⟨zs_aload_n (k := 0) rfl (by decide +kernel), zg_aload _⟩, ⟨zs_getR (ci := 7) (k := 0) (C := RX7) (T := TX7) (N := 11) rfl (by decide) rfl wd_281 (by decide +kernel), zg_getR _ _⟩, ⟨zs_iload_n (k := 2) rfl (by decide +kernel), zg_iload _⟩, ⟨zs_callV (ci := 6) (C := RX6) (T := TX6) (N := 2) (n := 1) rfl mk_11 rfl ⟨rfl, rfl⟩ ck_11 wd_319 wd_320 wd_321 rfl (by decide +kernel), zg_callV _ _ _ _⟩, trivial⟩,
  ⟨⟨zs_zne (off := 5) (q := 23) (by decide +kernel) rfl (by decide), zg_zne _⟩, ⟨zs_jump rfl, zg_jump _⟩, trivial⟩,
  ⟨⟨zs_iconst (n := (-1)) (by decide +kernel) (by decide), zg_push _⟩, ⟨zs_iret (by decide +kernel) rfl, zg_iret⟩, trivial⟩,
  ⟨⟨zs_aload_n (k := 0) rfl (by decide +kernel), zg_aload _⟩, ⟨zs_getR (ci := 7) (k := 3) (C := RX7) (T := TX7) (N := 11) rfl (by decide) rfl wd_284 (by decide +kernel), zg_getR _ _⟩, ⟨zs_getIN (ci := 2) (k := 10) (C := RX2) (T := TX2) (N := 14) rfl (by decide) (Or.inl rfl) wn_164 (by decide +kernel), zg_getI _ _⟩, ⟨zs_zne (off := 6) (q := 36) (by decide +kernel) rfl (by decide), zg_zne _⟩, ⟨zs_bipush (n := (-4)) (by decide +kernel) (by decide), zg_push _⟩, ⟨zs_iret (by decide +kernel) rfl, zg_iret⟩, trivial⟩,
  ⟨⟨zs_aload_n (k := 0) rfl (by decide +kernel), zg_aload _⟩, ⟨zs_getR (ci := 7) (k := 5) (C := RX7) (T := TX7) (N := 11) rfl (by decide) rfl wd_286 (by decide +kernel), zg_getR _ _⟩, ⟨zs_aload_n (k := 0) rfl (by decide +kernel), zg_aload _⟩, ⟨zs_getR (ci := 7) (k := 3) (C := RX7) (T := TX7) (N := 11) rfl (by decide) rfl wd_284 (by decide +kernel), zg_getR _ _⟩, ⟨zs_iload_n (k := 1) rfl (by decide +kernel), zg_iload _⟩, ⟨zs_callV (ci := 3) (C := RX3) (T := TX3) (N := 9) (n := 2) rfl mk_72 rfl ⟨rfl, rfl⟩ ck_72 wd_723 wd_724 wd_725 rfl (by decide +kernel), zg_callV _ _ _ _⟩, trivial⟩,
  ⟨⟨zs_aload_n (k := 0) rfl (by decide +kernel), zg_aload _⟩, ⟨zs_getR (ci := 7) (k := 5) (C := RX7) (T := TX7) (N := 11) rfl (by decide) rfl wd_286 (by decide +kernel), zg_getR _ _⟩, ⟨zs_iconst (n := 0) (by decide +kernel) (by decide), zg_push _⟩, ⟨zs_callV (ci := 3) (C := RX3) (T := TX3) (N := 9) (n := 1) rfl mk_80 rfl ⟨rfl, rfl⟩ ck_80 wd_744 wd_745 wd_746 rfl (by decide +kernel), zg_callV _ _ _ _⟩, trivial⟩,
  ⟨⟨zs_zne (off := 6) (q := 62) (by decide +kernel) rfl (by decide), zg_zne _⟩, ⟨zs_bipush (n := (-9)) (by decide +kernel) (by decide), zg_push _⟩, ⟨zs_iret (by decide +kernel) rfl, zg_iret⟩, trivial⟩,
  ⟨⟨zs_aload_n (k := 0) rfl (by decide +kernel), zg_aload _⟩, ⟨zs_getR (ci := 7) (k := 0) (C := RX7) (T := TX7) (N := 11) rfl (by decide) rfl wd_281 (by decide +kernel), zg_getR _ _⟩, ⟨zs_iload_n (k := 2) rfl (by decide +kernel), zg_iload _⟩, ⟨zs_aload_n (k := 0) rfl (by decide +kernel), zg_aload _⟩, ⟨zs_getR (ci := 7) (k := 3) (C := RX7) (T := TX7) (N := 11) rfl (by decide) rfl wd_284 (by decide +kernel), zg_getR _ _⟩, ⟨zs_getIN (ci := 2) (k := 10) (C := RX2) (T := TX2) (N := 14) rfl (by decide) (Or.inl rfl) wn_164 (by decide +kernel), zg_getI _ _⟩, ⟨zs_iconst (n := 0) (by decide +kernel) (by decide), zg_push _⟩, ⟨zs_callV (ci := 6) (C := RX6) (T := TX6) (N := 2) (n := 3) rfl mk_18 rfl ⟨rfl, rfl⟩ ck_18 wd_327 wd_328 wd_329 rfl (by decide +kernel), zg_callV _ _ _ _⟩, trivial⟩,
  ⟨⟨zs_iconst (n := 0) (by decide +kernel) (by decide), zg_push _⟩, ⟨zs_istore_n (k := 3) rfl (by decide +kernel), zg_istore _⟩, ⟨zs_jump rfl, zg_jump _⟩, trivial⟩,
  ⟨⟨zs_iload_n (k := 3) rfl (by decide +kernel), zg_iload _⟩, ⟨zs_aload_n (k := 0) rfl (by decide +kernel), zg_aload _⟩, ⟨zs_getR (ci := 7) (k := 3) (C := RX7) (T := TX7) (N := 11) rfl (by decide) rfl wd_284 (by decide +kernel), zg_getR _ _⟩, ⟨zs_getIN (ci := 2) (k := 10) (C := RX2) (T := TX2) (N := 14) rfl (by decide) (Or.inl rfl) wn_164 (by decide +kernel), zg_getI _ _⟩, ⟨zs_cge (off := 27) (q := 115) (by decide +kernel) rfl (by decide), zg_cge _⟩, ⟨zs_aload_n (k := 0) rfl (by decide +kernel), zg_aload _⟩, ⟨zs_getR (ci := 7) (k := 0) (C := RX7) (T := TX7) (N := 11) rfl (by decide) rfl wd_281 (by decide +kernel), zg_getR _ _⟩, ⟨zs_iload_n (k := 2) rfl (by decide +kernel), zg_iload _⟩, ⟨zs_iload_n (k := 3) rfl (by decide +kernel), zg_iload _⟩, ⟨zs_aload_n (k := 0) rfl (by decide +kernel), zg_aload _⟩, ⟨zs_getR (ci := 7) (k := 5) (C := RX7) (T := TX7) (N := 11) rfl (by decide) rfl wd_286 (by decide +kernel), zg_getR _ _⟩, ⟨zs_iload_n (k := 3) rfl (by decide +kernel), zg_iload _⟩, ⟨zs_callV (ci := 3) (C := RX3) (T := TX3) (N := 9) (n := 1) rfl mk_84 rfl ⟨rfl, rfl⟩ ck_84 wd_772 wd_773 wd_774 rfl (by decide +kernel), zg_callV _ _ _ _⟩, trivial⟩,
  ⟨⟨zs_callV (ci := 6) (C := RX6) (T := TX6) (N := 2) (n := 3) rfl mk_17 rfl ⟨rfl, rfl⟩ ck_17 wd_352 wd_353 wd_354 rfl (by decide +kernel), zg_callV _ _ _ _⟩, trivial⟩,
  ⟨⟨zs_pop (by decide +kernel), zg_pop⟩, ⟨zs_iinc (n := 1) (by decide +kernel) (by decide), zg_iinc _ _⟩, ⟨zs_goto (off := (-32)) (q := 80) (by decide +kernel) rfl (by decide), zg_jump _⟩, trivial⟩,
  ⟨⟨zs_aload_n (k := 0) rfl (by decide +kernel), zg_aload _⟩, ⟨zs_getR (ci := 7) (k := 5) (C := RX7) (T := TX7) (N := 11) rfl (by decide) rfl wd_286 (by decide +kernel), zg_getR _ _⟩, ⟨zs_callV (ci := 3) (C := RX3) (T := TX3) (N := 9) (n := 0) rfl mk_85 rfl ⟨rfl, rfl⟩ ck_85 wd_776 wd_777 wd_778 rfl (by decide +kernel), zg_callV _ _ _ _⟩, trivial⟩,
  ⟨⟨zs_iret (by decide +kernel) rfl, zg_iret⟩, trivial⟩, trivial⟩
-- NeverTogether.stairs(I)I
def tb_122 : List zz_B := [[(1, zi_iload 1), (3, zi_zlt 1), (1, zi_iload 1), (2, zi_push (.int 7)), (3, zi_cle 2), (0, zi_jump 1)],
  [(1, zi_push (.int (-1))), (1, zi_iret)],
  [(1, zi_aload 0), (3, zi_getR 7 3), (3, zi_getI 2 10), (3, zi_zne 3), (2, zi_push (.int (-4))), (1, zi_iret)],
  [(1, zi_aload 0), (3, zi_getR 7 5), (1, zi_aload 0), (3, zi_getR 7 3), (1, zi_iload 1), (3, zi_callV 3 72 3 4)],
  [(1, zi_aload 0), (3, zi_getR 7 5), (1, zi_push (.int 1)), (3, zi_callV 3 80 2 5)],
  [(3, zi_zne 6), (2, zi_push (.int (-9))), (1, zi_iret)],
  [(1, zi_aload 0), (1, zi_aload 0), (3, zi_getR 7 5), (3, zi_callV 3 87 1 7)],
  [(3, zi_putI 7 10), (1, zi_aload 0), (3, zi_getR 7 5), (3, zi_callV 3 86 1 8)],
  [(1, zi_iret)]]
def pc_122 : List Nat := [0, 10, 12, 25, 37, 45, 51, 59, 69]
set_option maxRecDepth 20000 in
theorem sa_122 : zz_SA zz_mt RX7 yX7_stairs cX7_stairs (some .int) 2 pc_122 pc_122 tb_122 := ⟨⟨⟨zs_iload_n (k := 1) rfl (by decide +kernel), zg_iload _⟩, ⟨zs_zlt (off := 9) (q := 10) (by decide +kernel) rfl (by decide), zg_zlt _⟩, ⟨zs_iload_n (k := 1) rfl (by decide +kernel), zg_iload _⟩, ⟨zs_bipush (n := 7) (by decide +kernel) (by decide), zg_push _⟩, ⟨zs_cle (off := 5) (q := 12) (by decide +kernel) rfl (by decide), zg_cle _⟩, ⟨zs_jump rfl, zg_jump _⟩, trivial⟩,
  ⟨⟨zs_iconst (n := (-1)) (by decide +kernel) (by decide), zg_push _⟩, ⟨zs_iret (by decide +kernel) rfl, zg_iret⟩, trivial⟩,
  ⟨⟨zs_aload_n (k := 0) rfl (by decide +kernel), zg_aload _⟩, ⟨zs_getR (ci := 7) (k := 3) (C := RX7) (T := TX7) (N := 11) rfl (by decide) rfl wd_284 (by decide +kernel), zg_getR _ _⟩, ⟨zs_getIN (ci := 2) (k := 10) (C := RX2) (T := TX2) (N := 14) rfl (by decide) (Or.inl rfl) wn_164 (by decide +kernel), zg_getI _ _⟩, ⟨zs_zne (off := 6) (q := 25) (by decide +kernel) rfl (by decide), zg_zne _⟩, ⟨zs_bipush (n := (-4)) (by decide +kernel) (by decide), zg_push _⟩, ⟨zs_iret (by decide +kernel) rfl, zg_iret⟩, trivial⟩,
  ⟨⟨zs_aload_n (k := 0) rfl (by decide +kernel), zg_aload _⟩, ⟨zs_getR (ci := 7) (k := 5) (C := RX7) (T := TX7) (N := 11) rfl (by decide) rfl wd_286 (by decide +kernel), zg_getR _ _⟩, ⟨zs_aload_n (k := 0) rfl (by decide +kernel), zg_aload _⟩, ⟨zs_getR (ci := 7) (k := 3) (C := RX7) (T := TX7) (N := 11) rfl (by decide) rfl wd_284 (by decide +kernel), zg_getR _ _⟩, ⟨zs_iload_n (k := 1) rfl (by decide +kernel), zg_iload _⟩, ⟨zs_callV (ci := 3) (C := RX3) (T := TX3) (N := 9) (n := 2) rfl mk_72 rfl ⟨rfl, rfl⟩ ck_72 wd_723 wd_724 wd_725 rfl (by decide +kernel), zg_callV _ _ _ _⟩, trivial⟩,
  ⟨⟨zs_aload_n (k := 0) rfl (by decide +kernel), zg_aload _⟩, ⟨zs_getR (ci := 7) (k := 5) (C := RX7) (T := TX7) (N := 11) rfl (by decide) rfl wd_286 (by decide +kernel), zg_getR _ _⟩, ⟨zs_iconst (n := 1) (by decide +kernel) (by decide), zg_push _⟩, ⟨zs_callV (ci := 3) (C := RX3) (T := TX3) (N := 9) (n := 1) rfl mk_80 rfl ⟨rfl, rfl⟩ ck_80 wd_744 wd_745 wd_746 rfl (by decide +kernel), zg_callV _ _ _ _⟩, trivial⟩,
  ⟨⟨zs_zne (off := 6) (q := 51) (by decide +kernel) rfl (by decide), zg_zne _⟩, ⟨zs_bipush (n := (-9)) (by decide +kernel) (by decide), zg_push _⟩, ⟨zs_iret (by decide +kernel) rfl, zg_iret⟩, trivial⟩,
  ⟨⟨zs_aload_n (k := 0) rfl (by decide +kernel), zg_aload _⟩, ⟨zs_aload_n (k := 0) rfl (by decide +kernel), zg_aload _⟩, ⟨zs_getR (ci := 7) (k := 5) (C := RX7) (T := TX7) (N := 11) rfl (by decide) rfl wd_286 (by decide +kernel), zg_getR _ _⟩, ⟨zs_callV (ci := 3) (C := RX3) (T := TX3) (N := 9) (n := 0) rfl mk_87 rfl ⟨rfl, rfl⟩ ck_87 wd_784 wd_785 wd_786 rfl (by decide +kernel), zg_callV _ _ _ _⟩, trivial⟩,
  ⟨⟨zs_putI (ci := 7) (k := 10) (C := RX7) (T := TX7) (N := 11) rfl (by decide) rfl rfl wd_291 (by decide +kernel), zg_putI _ _⟩, ⟨zs_aload_n (k := 0) rfl (by decide +kernel), zg_aload _⟩, ⟨zs_getR (ci := 7) (k := 5) (C := RX7) (T := TX7) (N := 11) rfl (by decide) rfl wd_286 (by decide +kernel), zg_getR _ _⟩, ⟨zs_callV (ci := 3) (C := RX3) (T := TX3) (N := 9) (n := 0) rfl mk_86 rfl ⟨rfl, rfl⟩ ck_86 wd_788 wd_789 wd_790 rfl (by decide +kernel), zg_callV _ _ _ _⟩, trivial⟩,
  ⟨⟨zs_iret (by decide +kernel) rfl, zg_iret⟩, trivial⟩, trivial⟩
-- NeverTogether.doomed(I)I
def tb_123 : List zz_B := [[(1, zi_iload 1), (3, zi_zlt 1), (1, zi_iload 1), (2, zi_push (.int 60)), (3, zi_cle 2), (0, zi_jump 1)],
  [(1, zi_push (.int (-1))), (1, zi_iret)],
  [(1, zi_aload 0), (3, zi_getR 7 5), (1, zi_aload 0), (3, zi_getR 7 3), (1, zi_iload 1), (3, zi_callV 3 72 3 3)],
  [(1, zi_aload 0), (1, zi_aload 0), (3, zi_getR 7 5), (3, zi_callV 3 77 1 4)],
  [(3, zi_putI 7 10), (1, zi_aload 0), (3, zi_getR 7 5), (3, zi_callV 3 76 1 5)],
  [(1, zi_iret)]]
def pc_123 : List Nat := [0, 10, 12, 24, 32, 42]
set_option maxRecDepth 20000 in
theorem sa_123 : zz_SA zz_mt RX7 yX7_doomed cX7_doomed (some .int) 2 pc_123 pc_123 tb_123 := ⟨⟨⟨zs_iload_n (k := 1) rfl (by decide +kernel), zg_iload _⟩, ⟨zs_zlt (off := 9) (q := 10) (by decide +kernel) rfl (by decide), zg_zlt _⟩, ⟨zs_iload_n (k := 1) rfl (by decide +kernel), zg_iload _⟩, ⟨zs_bipush (n := 60) (by decide +kernel) (by decide), zg_push _⟩, ⟨zs_cle (off := 5) (q := 12) (by decide +kernel) rfl (by decide), zg_cle _⟩, ⟨zs_jump rfl, zg_jump _⟩, trivial⟩,
  ⟨⟨zs_iconst (n := (-1)) (by decide +kernel) (by decide), zg_push _⟩, ⟨zs_iret (by decide +kernel) rfl, zg_iret⟩, trivial⟩,
  ⟨⟨zs_aload_n (k := 0) rfl (by decide +kernel), zg_aload _⟩, ⟨zs_getR (ci := 7) (k := 5) (C := RX7) (T := TX7) (N := 11) rfl (by decide) rfl wd_286 (by decide +kernel), zg_getR _ _⟩, ⟨zs_aload_n (k := 0) rfl (by decide +kernel), zg_aload _⟩, ⟨zs_getR (ci := 7) (k := 3) (C := RX7) (T := TX7) (N := 11) rfl (by decide) rfl wd_284 (by decide +kernel), zg_getR _ _⟩, ⟨zs_iload_n (k := 1) rfl (by decide +kernel), zg_iload _⟩, ⟨zs_callV (ci := 3) (C := RX3) (T := TX3) (N := 9) (n := 2) rfl mk_72 rfl ⟨rfl, rfl⟩ ck_72 wd_723 wd_724 wd_725 rfl (by decide +kernel), zg_callV _ _ _ _⟩, trivial⟩,
  ⟨⟨zs_aload_n (k := 0) rfl (by decide +kernel), zg_aload _⟩, ⟨zs_aload_n (k := 0) rfl (by decide +kernel), zg_aload _⟩, ⟨zs_getR (ci := 7) (k := 5) (C := RX7) (T := TX7) (N := 11) rfl (by decide) rfl wd_286 (by decide +kernel), zg_getR _ _⟩, ⟨zs_callV (ci := 3) (C := RX3) (T := TX3) (N := 9) (n := 0) rfl mk_77 rfl ⟨rfl, rfl⟩ ck_77 wd_796 wd_797 wd_798 rfl (by decide +kernel), zg_callV _ _ _ _⟩, trivial⟩,
  ⟨⟨zs_putI (ci := 7) (k := 10) (C := RX7) (T := TX7) (N := 11) rfl (by decide) rfl rfl wd_291 (by decide +kernel), zg_putI _ _⟩, ⟨zs_aload_n (k := 0) rfl (by decide +kernel), zg_aload _⟩, ⟨zs_getR (ci := 7) (k := 5) (C := RX7) (T := TX7) (N := 11) rfl (by decide) rfl wd_286 (by decide +kernel), zg_getR _ _⟩, ⟨zs_callV (ci := 3) (C := RX3) (T := TX3) (N := 9) (n := 0) rfl mk_76 rfl ⟨rfl, rfl⟩ ck_76 wd_800 wd_750 wd_751 rfl (by decide +kernel), zg_callV _ _ _ _⟩, trivial⟩,
  ⟨⟨zs_iret (by decide +kernel) rfl, zg_iret⟩, trivial⟩, trivial⟩
-- NeverTogether.out(I)I
def tb_124 : List zz_B := [[(1, zi_iload 1), (3, zi_zlt 1), (1, zi_iload 1), (2, zi_push (.int 60)), (3, zi_cle 2), (0, zi_jump 1)],
  [(1, zi_push (.int (-1))), (1, zi_iret)],
  [(1, zi_aload 0), (3, zi_getR 7 5), (1, zi_aload 0), (3, zi_getR 7 3), (1, zi_iload 1), (3, zi_callV 3 72 3 3)],
  [(1, zi_aload 0), (1, zi_aload 0), (3, zi_getR 7 5), (3, zi_callV 3 78 1 4)],
  [(3, zi_putI 7 10), (1, zi_aload 0), (3, zi_getI 7 10), (3, zi_callS 9 1 5)],
  [(1, zi_iret)]]
def pc_124 : List Nat := [0, 10, 12, 24, 32, 42]
set_option maxRecDepth 20000 in
theorem sa_124 : zz_SA zz_mt RX7 yX7_out cX7_out (some .int) 2 pc_124 pc_124 tb_124 := ⟨⟨⟨zs_iload_n (k := 1) rfl (by decide +kernel), zg_iload _⟩, ⟨zs_zlt (off := 9) (q := 10) (by decide +kernel) rfl (by decide), zg_zlt _⟩, ⟨zs_iload_n (k := 1) rfl (by decide +kernel), zg_iload _⟩, ⟨zs_bipush (n := 60) (by decide +kernel) (by decide), zg_push _⟩, ⟨zs_cle (off := 5) (q := 12) (by decide +kernel) rfl (by decide), zg_cle _⟩, ⟨zs_jump rfl, zg_jump _⟩, trivial⟩,
  ⟨⟨zs_iconst (n := (-1)) (by decide +kernel) (by decide), zg_push _⟩, ⟨zs_iret (by decide +kernel) rfl, zg_iret⟩, trivial⟩,
  ⟨⟨zs_aload_n (k := 0) rfl (by decide +kernel), zg_aload _⟩, ⟨zs_getR (ci := 7) (k := 5) (C := RX7) (T := TX7) (N := 11) rfl (by decide) rfl wd_286 (by decide +kernel), zg_getR _ _⟩, ⟨zs_aload_n (k := 0) rfl (by decide +kernel), zg_aload _⟩, ⟨zs_getR (ci := 7) (k := 3) (C := RX7) (T := TX7) (N := 11) rfl (by decide) rfl wd_284 (by decide +kernel), zg_getR _ _⟩, ⟨zs_iload_n (k := 1) rfl (by decide +kernel), zg_iload _⟩, ⟨zs_callV (ci := 3) (C := RX3) (T := TX3) (N := 9) (n := 2) rfl mk_72 rfl ⟨rfl, rfl⟩ ck_72 wd_723 wd_724 wd_725 rfl (by decide +kernel), zg_callV _ _ _ _⟩, trivial⟩,
  ⟨⟨zs_aload_n (k := 0) rfl (by decide +kernel), zg_aload _⟩, ⟨zs_aload_n (k := 0) rfl (by decide +kernel), zg_aload _⟩, ⟨zs_getR (ci := 7) (k := 5) (C := RX7) (T := TX7) (N := 11) rfl (by decide) rfl wd_286 (by decide +kernel), zg_getR _ _⟩, ⟨zs_callV (ci := 3) (C := RX3) (T := TX3) (N := 9) (n := 0) rfl mk_78 rfl ⟨rfl, rfl⟩ ck_78 wd_805 wd_806 wd_807 rfl (by decide +kernel), zg_callV _ _ _ _⟩, trivial⟩,
  ⟨⟨zs_putI (ci := 7) (k := 10) (C := RX7) (T := TX7) (N := 11) rfl (by decide) rfl rfl wd_291 (by decide +kernel), zg_putI _ _⟩, ⟨zs_aload_n (k := 0) rfl (by decide +kernel), zg_aload _⟩, ⟨zs_getI (ci := 7) (k := 10) (C := RX7) (T := TX7) (N := 11) rfl (by decide) (Or.inl rfl) wd_291 (by decide +kernel), zg_getI _ _⟩, ⟨zs_callS (n := 1) mk_9 ⟨rfl, rfl⟩ ck_9 wd_814 wd_545 wd_79 rfl (by decide +kernel), zg_callS _ _ _⟩, trivial⟩,
  ⟨⟨zs_iret (by decide +kernel) rfl, zg_iret⟩, trivial⟩, trivial⟩
