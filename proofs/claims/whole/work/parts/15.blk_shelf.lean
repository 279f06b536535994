/-! blocks of methods, and that they are what stands in the class file: printed by program -/
-- NeverTogether$Shelf.isNumber(I)Z
def tb_11 : List zz_B := [[(1, zi_iload 1), (3, zi_zlt 1), (1, zi_iload 1), (1, zi_aload 0), (3, zi_getR 6 1), (1, zi_alen), (3, zi_cge 1), (1, zi_push (.int 1)), (3, zi_jump 2)],
  [(1, zi_push (.int 0)), (0, zi_jump 2)],
  [(1, zi_zret)]]
def pc_11 : List Nat := [0, 17, 18]
set_option maxRecDepth 20000 in
theorem sa_11 : zz_SA zz_mt RX6 yX6_isNumber cX6_isNumber (some .boolean) 2 pc_11 pc_11 tb_11 := ⟨⟨⟨zs_iload_n (k := 1) rfl (by decide +kernel), zg_iload _⟩, ⟨zs_zlt (off := 16) (q := 17) (by decide +kernel) rfl (by decide), zg_zlt _⟩, ⟨zs_iload_n (k := 1) rfl (by decide +kernel), zg_iload _⟩, ⟨zs_aload_n (k := 0) rfl (by decide +kernel), zg_aload _⟩, ⟨zs_getR (ci := 6) (k := 1) (C := RX6) (T := TX6) (N := 2) rfl (by decide) rfl wd_99 (by decide +kernel), zg_getR _ _⟩, ⟨zs_alen (by decide +kernel), zg_alen⟩, ⟨zs_cge (off := 7) (q := 17) (by decide +kernel) rfl (by decide), zg_cge _⟩, ⟨zs_iconst (n := 1) (by decide +kernel) (by decide), zg_push _⟩, ⟨zs_goto (off := 4) (q := 18) (by decide +kernel) rfl (by decide), zg_jump _⟩, trivial⟩,
  ⟨⟨zs_iconst (n := 0) (by decide +kernel) (by decide), zg_push _⟩, ⟨zs_jump rfl, zg_jump _⟩, trivial⟩,
  ⟨⟨zs_zret (by decide +kernel) rfl, zg_zret⟩, trivial⟩, trivial⟩
-- NeverTogether$Shelf.isThere(I)Z
def tb_12 : List zz_B := [[(1, zi_aload 0), (1, zi_iload 1), (3, zi_callV 6 11 2 1)],
  [(3, zi_zeq 2), (1, zi_aload 0), (3, zi_getR 6 1), (1, zi_iload 1), (1, zi_iald), (1, zi_push (.int (-1))), (3, zi_ceq 2), (1, zi_push (.int 1)), (3, zi_jump 3)],
  [(1, zi_push (.int 0)), (0, zi_jump 3)],
  [(1, zi_zret)]]
def pc_12 : List Nat := [0, 5, 22, 23]
set_option maxRecDepth 20000 in
theorem sa_12 : zz_SA zz_mt RX6 yX6_isThere cX6_isThere (some .boolean) 2 pc_12 pc_12 tb_12 := ⟨⟨⟨zs_aload_n (k := 0) rfl (by decide +kernel), zg_aload _⟩, ⟨zs_iload_n (k := 1) rfl (by decide +kernel), zg_iload _⟩, ⟨zs_callV (ci := 6) (C := RX6) (T := TX6) (N := 2) (n := 1) rfl mk_11 rfl ⟨rfl, rfl⟩ ck_11 wd_331 wd_320 wd_321 rfl (by decide +kernel), zg_callV _ _ _ _⟩, trivial⟩,
  ⟨⟨zs_zeq (off := 17) (q := 22) (by decide +kernel) rfl (by decide), zg_zeq _⟩, ⟨zs_aload_n (k := 0) rfl (by decide +kernel), zg_aload _⟩, ⟨zs_getR (ci := 6) (k := 1) (C := RX6) (T := TX6) (N := 2) rfl (by decide) rfl wd_99 (by decide +kernel), zg_getR _ _⟩, ⟨zs_iload_n (k := 1) rfl (by decide +kernel), zg_iload _⟩, ⟨zs_iald (by decide +kernel), zg_iald⟩, ⟨zs_iconst (n := (-1)) (by decide +kernel) (by decide), zg_push _⟩, ⟨zs_ceq (off := 7) (q := 22) (by decide +kernel) rfl (by decide), zg_ceq _⟩, ⟨zs_iconst (n := 1) (by decide +kernel) (by decide), zg_push _⟩, ⟨zs_goto (off := 4) (q := 23) (by decide +kernel) rfl (by decide), zg_jump _⟩, trivial⟩,
  ⟨⟨zs_iconst (n := 0) (by decide +kernel) (by decide), zg_push _⟩, ⟨zs_jump rfl, zg_jump _⟩, trivial⟩,
  ⟨⟨zs_zret (by decide +kernel) rfl, zg_zret⟩, trivial⟩, trivial⟩
-- NeverTogether$Shelf.isPlace(II)Z
def tb_13 : List zz_B := [[(1, zi_iload 1), (3, zi_zlt 1), (1, zi_iload 1), (1, zi_aload 0), (3, zi_getR 6 1), (1, zi_alen), (3, zi_cge 1), (1, zi_iload 2), (3, zi_zlt 1), (1, zi_iload 2), (1, zi_aload 0), (3, zi_getR 6 1), (1, zi_iload 1), (1, zi_iald), (3, zi_cge 1), (1, zi_push (.int 1)), (3, zi_jump 2)],
  [(1, zi_push (.int 0)), (0, zi_jump 2)],
  [(1, zi_zret)]]
def pc_13 : List Nat := [0, 31, 32]
set_option maxRecDepth 20000 in
theorem sa_13 : zz_SA zz_mt RX6 yX6_isPlace cX6_isPlace (some .boolean) 3 pc_13 pc_13 tb_13 := ⟨⟨⟨zs_iload_n (k := 1) rfl (by decide +kernel), zg_iload _⟩, ⟨zs_zlt (off := 30) (q := 31) (by decide +kernel) rfl (by decide), zg_zlt _⟩, ⟨zs_iload_n (k := 1) rfl (by decide +kernel), zg_iload _⟩, ⟨zs_aload_n (k := 0) rfl (by decide +kernel), zg_aload _⟩, ⟨zs_getR (ci := 6) (k := 1) (C := RX6) (T := TX6) (N := 2) rfl (by decide) rfl wd_99 (by decide +kernel), zg_getR _ _⟩, ⟨zs_alen (by decide +kernel), zg_alen⟩, ⟨zs_cge (off := 21) (q := 31) (by decide +kernel) rfl (by decide), zg_cge _⟩, ⟨zs_iload_n (k := 2) rfl (by decide +kernel), zg_iload _⟩, ⟨zs_zlt (off := 17) (q := 31) (by decide +kernel) rfl (by decide), zg_zlt _⟩, ⟨zs_iload_n (k := 2) rfl (by decide +kernel), zg_iload _⟩, ⟨zs_aload_n (k := 0) rfl (by decide +kernel), zg_aload _⟩, ⟨zs_getR (ci := 6) (k := 1) (C := RX6) (T := TX6) (N := 2) rfl (by decide) rfl wd_99 (by decide +kernel), zg_getR _ _⟩, ⟨zs_iload_n (k := 1) rfl (by decide +kernel), zg_iload _⟩, ⟨zs_iald (by decide +kernel), zg_iald⟩, ⟨zs_cge (off := 7) (q := 31) (by decide +kernel) rfl (by decide), zg_cge _⟩, ⟨zs_iconst (n := 1) (by decide +kernel) (by decide), zg_push _⟩, ⟨zs_goto (off := 4) (q := 32) (by decide +kernel) rfl (by decide), zg_jump _⟩, trivial⟩,
  ⟨⟨zs_iconst (n := 0) (by decide +kernel) (by decide), zg_push _⟩, ⟨zs_jump rfl, zg_jump _⟩, trivial⟩,
  ⟨⟨zs_zret (by decide +kernel) rfl, zg_zret⟩, trivial⟩, trivial⟩
-- NeverTogether$Shelf.holds(III)Z
def tb_14 : List zz_B := [[(1, zi_aload 0), (1, zi_iload 1), (3, zi_callV 6 12 2 1)],
  [(3, zi_zeq 2), (1, zi_iload 2), (3, zi_zlt 2), (1, zi_iload 3), (3, zi_zlt 2), (1, zi_iload 3), (1, zi_aload 0), (3, zi_getR 6 1), (1, zi_iload 1), (1, zi_iald), (3, zi_cgt 2), (1, zi_iload 2), (1, zi_aload 0), (3, zi_getR 6 1), (1, zi_iload 1), (1, zi_iald), (1, zi_iload 3), (1, zi_ibin (fun x y => x - y)), (3, zi_cgt 2), (1, zi_push (.int 1)), (3, zi_jump 3)],
  [(1, zi_push (.int 0)), (0, zi_jump 3)],
  [(1, zi_zret)]]
def pc_14 : List Nat := [0, 5, 42, 43]
set_option maxRecDepth 20000 in
theorem sa_14 : zz_SA zz_mt RX6 yX6_holds cX6_holds (some .boolean) 4 pc_14 pc_14 tb_14 := ⟨⟨⟨zs_aload_n (k := 0) rfl (by decide +kernel), zg_aload _⟩, ⟨zs_iload_n (k := 1) rfl (by decide +kernel), zg_iload _⟩, ⟨zs_callV (ci := 6) (C := RX6) (T := TX6) (N := 2) (n := 1) rfl mk_12 rfl ⟨rfl, rfl⟩ ck_12 wd_381 wd_345 wd_346 rfl (by decide +kernel), zg_callV _ _ _ _⟩, trivial⟩,
  ⟨⟨zs_zeq (off := 37) (q := 42) (by decide +kernel) rfl (by decide), zg_zeq _⟩, ⟨zs_iload_n (k := 2) rfl (by decide +kernel), zg_iload _⟩, ⟨zs_zlt (off := 33) (q := 42) (by decide +kernel) rfl (by decide), zg_zlt _⟩, ⟨zs_iload_n (k := 3) rfl (by decide +kernel), zg_iload _⟩, ⟨zs_zlt (off := 29) (q := 42) (by decide +kernel) rfl (by decide), zg_zlt _⟩, ⟨zs_iload_n (k := 3) rfl (by decide +kernel), zg_iload _⟩, ⟨zs_aload_n (k := 0) rfl (by decide +kernel), zg_aload _⟩, ⟨zs_getR (ci := 6) (k := 1) (C := RX6) (T := TX6) (N := 2) rfl (by decide) rfl wd_99 (by decide +kernel), zg_getR _ _⟩, ⟨zs_iload_n (k := 1) rfl (by decide +kernel), zg_iload _⟩, ⟨zs_iald (by decide +kernel), zg_iald⟩, ⟨zs_cgt (off := 19) (q := 42) (by decide +kernel) rfl (by decide), zg_cgt _⟩, ⟨zs_iload_n (k := 2) rfl (by decide +kernel), zg_iload _⟩, ⟨zs_aload_n (k := 0) rfl (by decide +kernel), zg_aload _⟩, ⟨zs_getR (ci := 6) (k := 1) (C := RX6) (T := TX6) (N := 2) rfl (by decide) rfl wd_99 (by decide +kernel), zg_getR _ _⟩, ⟨zs_iload_n (k := 1) rfl (by decide +kernel), zg_iload _⟩, ⟨zs_iald (by decide +kernel), zg_iald⟩, ⟨zs_iload_n (k := 3) rfl (by decide +kernel), zg_iload _⟩, ⟨zs_isub (by decide +kernel), zg_ibin _⟩, ⟨zs_cgt (off := 7) (q := 42) (by decide +kernel) rfl (by decide), zg_cgt _⟩, ⟨zs_iconst (n := 1) (by decide +kernel) (by decide), zg_push _⟩, ⟨zs_goto (off := 4) (q := 43) (by decide +kernel) rfl (by decide), zg_jump _⟩, trivial⟩,
  ⟨⟨zs_iconst (n := 0) (by decide +kernel) (by decide), zg_push _⟩, ⟨zs_jump rfl, zg_jump _⟩, trivial⟩,
  ⟨⟨zs_zret (by decide +kernel) rfl, zg_zret⟩, trivial⟩, trivial⟩
-- NeverTogether$Shelf.sizeOf(I)I
def tb_15 : List zz_B := [[(1, zi_aload 0), (1, zi_iload 1), (3, zi_callV 6 11 2 1)],
  [(3, zi_zeq 2), (1, zi_aload 0), (3, zi_getR 6 1), (1, zi_iload 1), (1, zi_iald), (3, zi_jump 3)],
  [(1, zi_push (.int (-1))), (0, zi_jump 3)],
  [(1, zi_iret)]]
def pc_15 : List Nat := [0, 5, 17, 18]
set_option maxRecDepth 20000 in
theorem sa_15 : zz_SA zz_mt RX6 yX6_sizeOf cX6_sizeOf (some .int) 2 pc_15 pc_15 tb_15 := ⟨⟨⟨zs_aload_n (k := 0) rfl (by decide +kernel), zg_aload _⟩, ⟨zs_iload_n (k := 1) rfl (by decide +kernel), zg_iload _⟩, ⟨zs_callV (ci := 6) (C := RX6) (T := TX6) (N := 2) (n := 1) rfl mk_11 rfl ⟨rfl, rfl⟩ ck_11 wd_331 wd_320 wd_321 rfl (by decide +kernel), zg_callV _ _ _ _⟩, trivial⟩,
  ⟨⟨zs_zeq (off := 12) (q := 17) (by decide +kernel) rfl (by decide), zg_zeq _⟩, ⟨zs_aload_n (k := 0) rfl (by decide +kernel), zg_aload _⟩, ⟨zs_getR (ci := 6) (k := 1) (C := RX6) (T := TX6) (N := 2) rfl (by decide) rfl wd_99 (by decide +kernel), zg_getR _ _⟩, ⟨zs_iload_n (k := 1) rfl (by decide +kernel), zg_iload _⟩, ⟨zs_iald (by decide +kernel), zg_iald⟩, ⟨zs_goto (off := 4) (q := 18) (by decide +kernel) rfl (by decide), zg_jump _⟩, trivial⟩,
  ⟨⟨zs_iconst (n := (-1)) (by decide +kernel) (by decide), zg_push _⟩, ⟨zs_jump rfl, zg_jump _⟩, trivial⟩,
  ⟨⟨zs_iret (by decide +kernel) rfl, zg_iret⟩, trivial⟩, trivial⟩
-- NeverTogether$Shelf.placeOf(II)I
def tb_16 : List zz_B := [[(1, zi_aload 0), (1, zi_iload 1), (1, zi_iload 2), (3, zi_callV 6 13 3 1)],
  [(3, zi_zeq 3), (1, zi_aload 0), (3, zi_getR 6 0), (1, zi_iload 1), (1, zi_aald 2)],
  [(1, zi_iload 2), (1, zi_iald), (3, zi_jump 4)],
  [(1, zi_push (.int 0)), (0, zi_jump 4)],
  [(1, zi_iret)]]
def pc_16 : List Nat := [0, 6, 15, 20, 21]
set_option maxRecDepth 20000 in
theorem sa_16 : zz_SA zz_mt RX6 yX6_placeOf cX6_placeOf (some .int) 3 pc_16 pc_16 tb_16 := ⟨⟨⟨zs_aload_n (k := 0) rfl (by decide +kernel), zg_aload _⟩, ⟨zs_iload_n (k := 1) rfl (by decide +kernel), zg_iload _⟩, ⟨zs_iload_n (k := 2) rfl (by decide +kernel), zg_iload _⟩, ⟨zs_callV (ci := 6) (C := RX6) (T := TX6) (N := 2) (n := 2) rfl mk_13 rfl ⟨rfl, rfl⟩ ck_13 wd_356 wd_349 wd_350 rfl (by decide +kernel), zg_callV _ _ _ _⟩, trivial⟩,
  ⟨⟨zs_zeq (off := 14) (q := 20) (by decide +kernel) rfl (by decide), zg_zeq _⟩, ⟨zs_aload_n (k := 0) rfl (by decide +kernel), zg_aload _⟩, ⟨zs_getR (ci := 6) (k := 0) (C := RX6) (T := TX6) (N := 2) rfl (by decide) rfl wd_98 (by decide +kernel), zg_getR _ _⟩, ⟨zs_iload_n (k := 1) rfl (by decide +kernel), zg_iload _⟩, ⟨zs_aald rfl (by decide +kernel), zg_aald _⟩, trivial⟩,
  ⟨⟨zs_iload_n (k := 2) rfl (by decide +kernel), zg_iload _⟩, ⟨zs_iald (by decide +kernel), zg_iald⟩, ⟨zs_goto (off := 4) (q := 21) (by decide +kernel) rfl (by decide), zg_jump _⟩, trivial⟩,
  ⟨⟨zs_iconst (n := 0) (by decide +kernel) (by decide), zg_push _⟩, ⟨zs_jump rfl, zg_jump _⟩, trivial⟩,
  ⟨⟨zs_iret (by decide +kernel) rfl, zg_iret⟩, trivial⟩, trivial⟩
-- NeverTogether$Shelf.replace(III)I
def tb_17 : List zz_B := [[(1, zi_aload 0), (1, zi_iload 1), (1, zi_iload 2), (3, zi_callV 6 13 3 1)],
  [(3, zi_zne 2), (1, zi_push (.int 0)), (1, zi_iret)],
  [(1, zi_aload 0), (3, zi_getR 6 0), (1, zi_iload 1), (1, zi_aald 3)],
  [(1, zi_iload 2), (1, zi_iald), (2, zi_istore 4), (1, zi_aload 0), (3, zi_getR 6 0), (1, zi_iload 1), (1, zi_aald 4)],
  [(1, zi_iload 2), (1, zi_iload 3), (1, zi_iast), (2, zi_iload 4), (1, zi_iret)]]
def pc_17 : List Nat := [0, 6, 11, 17, 27]
set_option maxRecDepth 20000 in
theorem sa_17 : zz_SA zz_mt RX6 yX6_replace cX6_replace (some .int) 5 pc_17 pc_17 tb_17 := ⟨⟨⟨zs_aload_n (k := 0) rfl (by decide +kernel), zg_aload _⟩, ⟨zs_iload_n (k := 1) rfl (by decide +kernel), zg_iload _⟩, ⟨zs_iload_n (k := 2) rfl (by decide +kernel), zg_iload _⟩, ⟨zs_callV (ci := 6) (C := RX6) (T := TX6) (N := 2) (n := 2) rfl mk_13 rfl ⟨rfl, rfl⟩ ck_13 wd_356 wd_349 wd_350 rfl (by decide +kernel), zg_callV _ _ _ _⟩, trivial⟩,
  ⟨⟨zs_zne (off := 5) (q := 11) (by decide +kernel) rfl (by decide), zg_zne _⟩, ⟨zs_iconst (n := 0) (by decide +kernel) (by decide), zg_push _⟩, ⟨zs_iret (by decide +kernel) rfl, zg_iret⟩, trivial⟩,
  ⟨⟨zs_aload_n (k := 0) rfl (by decide +kernel), zg_aload _⟩, ⟨zs_getR (ci := 6) (k := 0) (C := RX6) (T := TX6) (N := 2) rfl (by decide) rfl wd_98 (by decide +kernel), zg_getR _ _⟩, ⟨zs_iload_n (k := 1) rfl (by decide +kernel), zg_iload _⟩, ⟨zs_aald rfl (by decide +kernel), zg_aald _⟩, trivial⟩,
  ⟨⟨zs_iload_n (k := 2) rfl (by decide +kernel), zg_iload _⟩, ⟨zs_iald (by decide +kernel), zg_iald⟩, ⟨zs_istore (by decide +kernel), zg_istore _⟩, ⟨zs_aload_n (k := 0) rfl (by decide +kernel), zg_aload _⟩, ⟨zs_getR (ci := 6) (k := 0) (C := RX6) (T := TX6) (N := 2) rfl (by decide) rfl wd_98 (by decide +kernel), zg_getR _ _⟩, ⟨zs_iload_n (k := 1) rfl (by decide +kernel), zg_iload _⟩, ⟨zs_aald rfl (by decide +kernel), zg_aald _⟩, trivial⟩,
  ⟨⟨zs_iload_n (k := 2) rfl (by decide +kernel), zg_iload _⟩, ⟨zs_iload_n (k := 3) rfl (by decide +kernel), zg_iload _⟩, ⟨zs_iast (by decide +kernel), zg_iast⟩, ⟨zs_iload (by decide +kernel), zg_iload _⟩, ⟨zs_iret (by decide +kernel) rfl, zg_iret⟩, trivial⟩, trivial⟩
-- NeverTogether$Shelf.renew(III)V
def tb_18 : List zz_B := [[(1, zi_aload 0), (1, zi_iload 1), (3, zi_callV 6 11 2 1)],
  [(3, zi_zeq 3), (1, zi_iload 2), (3, zi_zlt 3), (1, zi_iload 2), (1, zi_aload 0), (3, zi_getR 6 0), (1, zi_iload 1), (1, zi_aald 2)],
  [(1, zi_alen), (3, zi_cle 4), (0, zi_jump 3)],
  [(1, zi_vret)],
  [(1, zi_aload 0), (3, zi_getR 6 1), (1, zi_iload 1), (1, zi_iload 2), (1, zi_iast), (1, zi_push (.int 0)), (2, zi_istore 4), (0, zi_jump 5)],
  [(2, zi_iload 4), (1, zi_iload 2), (3, zi_cge 7), (1, zi_aload 0), (3, zi_getR 6 0), (1, zi_iload 1), (1, zi_aald 6)],
  [(2, zi_iload 4), (1, zi_iload 3), (1, zi_iast), (3, zi_iinc 4 1), (3, zi_jump 5)],
  [(1, zi_vret)]]
def pc_18 : List Nat := [0, 5, 19, 23, 24, 34, 46, 56]
set_option maxRecDepth 20000 in
theorem sa_18 : zz_SA zz_mt RX6 yX6_renew cX6_renew none 5 pc_18 pc_18 tb_18 := ⟨⟨⟨zs_aload_n (k := 0) rfl (by decide +kernel), zg_aload _⟩, ⟨zs_iload_n (k := 1) rfl (by decide +kernel), zg_iload _⟩, ⟨zs_callV (ci := 6) (C := RX6) (T := TX6) (N := 2) (n := 1) rfl mk_11 rfl ⟨rfl, rfl⟩ ck_11 wd_331 wd_320 wd_321 rfl (by decide +kernel), zg_callV _ _ _ _⟩, trivial⟩,
  ⟨⟨zs_zeq (off := 18) (q := 23) (by decide +kernel) rfl (by decide), zg_zeq _⟩, ⟨zs_iload_n (k := 2) rfl (by decide +kernel), zg_iload _⟩, ⟨zs_zlt (off := 14) (q := 23) (by decide +kernel) rfl (by decide), zg_zlt _⟩, ⟨zs_iload_n (k := 2) rfl (by decide +kernel), zg_iload _⟩, ⟨zs_aload_n (k := 0) rfl (by decide +kernel), zg_aload _⟩, ⟨zs_getR (ci := 6) (k := 0) (C := RX6) (T := TX6) (N := 2) rfl (by decide) rfl wd_98 (by decide +kernel), zg_getR _ _⟩, ⟨zs_iload_n (k := 1) rfl (by decide +kernel), zg_iload _⟩, ⟨zs_aald rfl (by decide +kernel), zg_aald _⟩, trivial⟩,
  ⟨⟨zs_alen (by decide +kernel), zg_alen⟩, ⟨zs_cle (off := 4) (q := 24) (by decide +kernel) rfl (by decide), zg_cle _⟩, ⟨zs_jump rfl, zg_jump _⟩, trivial⟩,
  ⟨⟨zs_vret (by decide +kernel) rfl, zg_vret⟩, trivial⟩,
  ⟨⟨zs_aload_n (k := 0) rfl (by decide +kernel), zg_aload _⟩, ⟨zs_getR (ci := 6) (k := 1) (C := RX6) (T := TX6) (N := 2) rfl (by decide) rfl wd_99 (by decide +kernel), zg_getR _ _⟩, ⟨zs_iload_n (k := 1) rfl (by decide +kernel), zg_iload _⟩, ⟨zs_iload_n (k := 2) rfl (by decide +kernel), zg_iload _⟩, ⟨zs_iast (by decide +kernel), zg_iast⟩, ⟨zs_iconst (n := 0) (by decide +kernel) (by decide), zg_push _⟩, ⟨zs_istore (by decide +kernel), zg_istore _⟩, ⟨zs_jump rfl, zg_jump _⟩, trivial⟩,
  ⟨⟨zs_iload (by decide +kernel), zg_iload _⟩, ⟨zs_iload_n (k := 2) rfl (by decide +kernel), zg_iload _⟩, ⟨zs_cge (off := 19) (q := 56) (by decide +kernel) rfl (by decide), zg_cge _⟩, ⟨zs_aload_n (k := 0) rfl (by decide +kernel), zg_aload _⟩, ⟨zs_getR (ci := 6) (k := 0) (C := RX6) (T := TX6) (N := 2) rfl (by decide) rfl wd_98 (by decide +kernel), zg_getR _ _⟩, ⟨zs_iload_n (k := 1) rfl (by decide +kernel), zg_iload _⟩, ⟨zs_aald rfl (by decide +kernel), zg_aald _⟩, trivial⟩,
  ⟨⟨zs_iload (by decide +kernel), zg_iload _⟩, ⟨zs_iload_n (k := 3) rfl (by decide +kernel), zg_iload _⟩, ⟨zs_iast (by decide +kernel), zg_iast⟩, ⟨zs_iinc (n := 1) (by decide +kernel) (by decide), zg_iinc _ _⟩, ⟨zs_goto (off := (-19)) (q := 34) (by decide +kernel) rfl (by decide), zg_jump _⟩, trivial⟩,
  ⟨⟨zs_vret (by decide +kernel) rfl, zg_vret⟩, trivial⟩, trivial⟩
-- NeverTogether$Shelf.remove(I)V
def tb_19 : List zz_B := [[(1, zi_aload 0), (1, zi_iload 1), (3, zi_callV 6 11 2 1)],
  [(3, zi_zeq 2), (1, zi_aload 0), (3, zi_getR 6 1), (1, zi_iload 1), (1, zi_push (.int (-1))), (1, zi_iast), (0, zi_jump 2)],
  [(1, zi_vret)]]
def pc_19 : List Nat := [0, 5, 15]
set_option maxRecDepth 20000 in
theorem sa_19 : zz_SA zz_mt RX6 yX6_remove cX6_remove none 2 pc_19 pc_19 tb_19 := ⟨⟨⟨zs_aload_n (k := 0) rfl (by decide +kernel), zg_aload _⟩, ⟨zs_iload_n (k := 1) rfl (by decide +kernel), zg_iload _⟩, ⟨zs_callV (ci := 6) (C := RX6) (T := TX6) (N := 2) (n := 1) rfl mk_11 rfl ⟨rfl, rfl⟩ ck_11 wd_331 wd_320 wd_321 rfl (by decide +kernel), zg_callV _ _ _ _⟩, trivial⟩,
  ⟨⟨zs_zeq (off := 10) (q := 15) (by decide +kernel) rfl (by decide), zg_zeq _⟩, ⟨zs_aload_n (k := 0) rfl (by decide +kernel), zg_aload _⟩, ⟨zs_getR (ci := 6) (k := 1) (C := RX6) (T := TX6) (N := 2) rfl (by decide) rfl wd_99 (by decide +kernel), zg_getR _ _⟩, ⟨zs_iload_n (k := 1) rfl (by decide +kernel), zg_iload _⟩, ⟨zs_iconst (n := (-1)) (by decide +kernel) (by decide), zg_push _⟩, ⟨zs_iast (by decide +kernel), zg_iast⟩, ⟨zs_jump rfl, zg_jump _⟩, trivial⟩,
  ⟨⟨zs_vret (by decide +kernel) rfl, zg_vret⟩, trivial⟩, trivial⟩
-- NeverTogether$Shelf.carry(IIIII)V
def tb_20 : List zz_B := [[(1, zi_aload 0), (1, zi_iload 1), (1, zi_iload 2), (2, zi_iload 5), (3, zi_callV 6 14 4 1)],
  [(3, zi_zeq 5), (1, zi_aload 0), (1, zi_iload 3), (2, zi_iload 4), (2, zi_iload 5), (3, zi_callV 6 14 4 2)],
  [(3, zi_zeq 5), (1, zi_aload 0), (3, zi_getR 6 0), (1, zi_iload 1), (1, zi_aald 3)],
  [(1, zi_iload 2), (1, zi_aload 0), (3, zi_getR 6 0), (1, zi_iload 3), (1, zi_aald 4)],
  [(2, zi_iload 4), (2, zi_iload 5), (3, zi_copy), (0, zi_jump 5)],
  [(1, zi_vret)]]
def pc_20 : List Nat := [0, 8, 20, 29, 36, 43]
set_option maxRecDepth 20000 in
theorem sa_20 : zz_SA zz_mt RX6 yX6_carry cX6_carry none 6 pc_20 pc_20 tb_20 := ⟨⟨⟨zs_aload_n (k := 0) rfl (by decide +kernel), zg_aload _⟩, ⟨zs_iload_n (k := 1) rfl (by decide +kernel), zg_iload _⟩, ⟨zs_iload_n (k := 2) rfl (by decide +kernel), zg_iload _⟩, ⟨zs_iload (by decide +kernel), zg_iload _⟩, ⟨zs_callV (ci := 6) (C := RX6) (T := TX6) (N := 2) (n := 3) rfl mk_14 rfl ⟨rfl, rfl⟩ ck_14 wd_386 wd_378 wd_379 rfl (by decide +kernel), zg_callV _ _ _ _⟩, trivial⟩,
  ⟨⟨zs_zeq (off := 35) (q := 43) (by decide +kernel) rfl (by decide), zg_zeq _⟩, ⟨zs_aload_n (k := 0) rfl (by decide +kernel), zg_aload _⟩, ⟨zs_iload_n (k := 3) rfl (by decide +kernel), zg_iload _⟩, ⟨zs_iload (by decide +kernel), zg_iload _⟩, ⟨zs_iload (by decide +kernel), zg_iload _⟩, ⟨zs_callV (ci := 6) (C := RX6) (T := TX6) (N := 2) (n := 3) rfl mk_14 rfl ⟨rfl, rfl⟩ ck_14 wd_386 wd_378 wd_379 rfl (by decide +kernel), zg_callV _ _ _ _⟩, trivial⟩,
  ⟨⟨zs_zeq (off := 23) (q := 43) (by decide +kernel) rfl (by decide), zg_zeq _⟩, ⟨zs_aload_n (k := 0) rfl (by decide +kernel), zg_aload _⟩, ⟨zs_getR (ci := 6) (k := 0) (C := RX6) (T := TX6) (N := 2) rfl (by decide) rfl wd_98 (by decide +kernel), zg_getR _ _⟩, ⟨zs_iload_n (k := 1) rfl (by decide +kernel), zg_iload _⟩, ⟨zs_aald rfl (by decide +kernel), zg_aald _⟩, trivial⟩,
  ⟨⟨zs_iload_n (k := 2) rfl (by decide +kernel), zg_iload _⟩, ⟨zs_aload_n (k := 0) rfl (by decide +kernel), zg_aload _⟩, ⟨zs_getR (ci := 6) (k := 0) (C := RX6) (T := TX6) (N := 2) rfl (by decide) rfl wd_98 (by decide +kernel), zg_getR _ _⟩, ⟨zs_iload_n (k := 3) rfl (by decide +kernel), zg_iload _⟩, ⟨zs_aald rfl (by decide +kernel), zg_aald _⟩, trivial⟩,
  ⟨⟨zs_iload (by decide +kernel), zg_iload _⟩, ⟨zs_iload (by decide +kernel), zg_iload _⟩, ⟨zs_copy wd_387 wd_389 wd_388 wd_78 (by decide +kernel), zg_copy⟩, ⟨zs_jump rfl, zg_jump _⟩, trivial⟩,
  ⟨⟨zs_vret (by decide +kernel) rfl, zg_vret⟩, trivial⟩, trivial⟩
-- NeverTogether$Shelf.sumOf(I)J
def tb_21 : List zz_B := [[(1, zi_push (.long 0)), (1, zi_lstore 2), (1, zi_aload 0), (1, zi_iload 1), (3, zi_callV 6 15 2 1)],
  [(2, zi_istore 4), (1, zi_push (.int 0)), (2, zi_istore 5), (0, zi_jump 2)],
  [(2, zi_iload 5), (2, zi_iload 4), (3, zi_cge 4), (1, zi_lload 2), (1, zi_aload 0), (1, zi_iload 1), (2, zi_iload 5), (3, zi_callV 6 16 3 3)],
  [(1, zi_i2l), (1, zi_lbin (fun x y => x + y)), (1, zi_lstore 2), (3, zi_iinc 5 1), (3, zi_jump 2)],
  [(1, zi_lload 2), (1, zi_lret)]]
def pc_21 : List Nat := [0, 7, 12, 27, 36]
set_option maxRecDepth 20000 in
theorem sa_21 : zz_SA zz_mt RX6 yX6_sumOf cX6_sumOf (some .long) 6 pc_21 pc_21 tb_21 := ⟨⟨⟨zs_lconst (n := 0) (by decide +kernel) (by decide), zg_push _⟩, ⟨zs_lstore_n (k := 2) rfl (by decide +kernel), zg_lstore _⟩, ⟨zs_aload_n (k := 0) rfl (by decide +kernel), zg_aload _⟩, ⟨zs_iload_n (k := 1) rfl (by decide +kernel), zg_iload _⟩, ⟨zs_callV (ci := 6) (C := RX6) (T := TX6) (N := 2) (n := 1) rfl mk_15 rfl ⟨rfl, rfl⟩ ck_15 wd_402 wd_395 wd_396 rfl (by decide +kernel), zg_callV _ _ _ _⟩, trivial⟩,
  ⟨⟨zs_istore (by decide +kernel), zg_istore _⟩, ⟨zs_iconst (n := 0) (by decide +kernel) (by decide), zg_push _⟩, ⟨zs_istore (by decide +kernel), zg_istore _⟩, ⟨zs_jump rfl, zg_jump _⟩, trivial⟩,
  ⟨⟨zs_iload (by decide +kernel), zg_iload _⟩, ⟨zs_iload (by decide +kernel), zg_iload _⟩, ⟨zs_cge (off := 20) (q := 36) (by decide +kernel) rfl (by decide), zg_cge _⟩, ⟨zs_lload_n (k := 2) rfl (by decide +kernel), zg_lload _⟩, ⟨zs_aload_n (k := 0) rfl (by decide +kernel), zg_aload _⟩, ⟨zs_iload_n (k := 1) rfl (by decide +kernel), zg_iload _⟩, ⟨zs_iload (by decide +kernel), zg_iload _⟩, ⟨zs_callV (ci := 6) (C := RX6) (T := TX6) (N := 2) (n := 2) rfl mk_16 rfl ⟨rfl, rfl⟩ ck_16 wd_403 wd_362 wd_363 rfl (by decide +kernel), zg_callV _ _ _ _⟩, trivial⟩,
  ⟨⟨zs_i2l (by decide +kernel), zg_i2l⟩, ⟨zs_ladd (by decide +kernel), zg_lbin _⟩, ⟨zs_lstore_n (k := 2) rfl (by decide +kernel), zg_lstore _⟩, ⟨zs_iinc (n := 1) (by decide +kernel) (by decide), zg_iinc _ _⟩, ⟨zs_goto (off := (-21)) (q := 12) (by decide +kernel) rfl (by decide), zg_jump _⟩, trivial⟩,
  ⟨⟨zs_lload_n (k := 2) rfl (by decide +kernel), zg_lload _⟩, ⟨zs_lret (by decide +kernel) rfl, zg_lret⟩, trivial⟩, trivial⟩
-- NeverTogether$Shelf.howManyThere()I
def tb_22 : List zz_B := [[(1, zi_push (.int 0)), (1, zi_istore 1), (1, zi_push (.int 0)), (1, zi_istore 2), (0, zi_jump 1)],
  [(1, zi_iload 2), (1, zi_aload 0), (3, zi_getR 6 1), (1, zi_alen), (3, zi_cge 4), (1, zi_aload 0), (1, zi_iload 2), (3, zi_callV 6 12 2 2)],
  [(3, zi_zeq 3), (3, zi_iinc 1 1), (0, zi_jump 3)],
  [(3, zi_iinc 2 1), (3, zi_jump 1)],
  [(1, zi_iload 1), (1, zi_iret)]]
def pc_22 : List Nat := [0, 4, 18, 24, 30]
set_option maxRecDepth 20000 in
theorem sa_22 : zz_SA zz_mt RX6 yX6_howManyThere cX6_howManyThere (some .int) 3 pc_22 pc_22 tb_22 := ⟨⟨⟨zs_iconst (n := 0) (by decide +kernel) (by decide), zg_push _⟩, ⟨zs_istore_n (k := 1) rfl (by decide +kernel), zg_istore _⟩, ⟨zs_iconst (n := 0) (by decide +kernel) (by decide), zg_push _⟩, ⟨zs_istore_n (k := 2) rfl (by decide +kernel), zg_istore _⟩, ⟨zs_jump rfl, zg_jump _⟩, trivial⟩,
  ⟨⟨zs_iload_n (k := 2) rfl (by decide +kernel), zg_iload _⟩, ⟨zs_aload_n (k := 0) rfl (by decide +kernel), zg_aload _⟩, ⟨zs_getR (ci := 6) (k := 1) (C := RX6) (T := TX6) (N := 2) rfl (by decide) rfl wd_99 (by decide +kernel), zg_getR _ _⟩, ⟨zs_alen (by decide +kernel), zg_alen⟩, ⟨zs_cge (off := 20) (q := 30) (by decide +kernel) rfl (by decide), zg_cge _⟩, ⟨zs_aload_n (k := 0) rfl (by decide +kernel), zg_aload _⟩, ⟨zs_iload_n (k := 2) rfl (by decide +kernel), zg_iload _⟩, ⟨zs_callV (ci := 6) (C := RX6) (T := TX6) (N := 2) (n := 1) rfl mk_12 rfl ⟨rfl, rfl⟩ ck_12 wd_381 wd_345 wd_346 rfl (by decide +kernel), zg_callV _ _ _ _⟩, trivial⟩,
  ⟨⟨zs_zeq (off := 6) (q := 24) (by decide +kernel) rfl (by decide), zg_zeq _⟩, ⟨zs_iinc (n := 1) (by decide +kernel) (by decide), zg_iinc _ _⟩, ⟨zs_jump rfl, zg_jump _⟩, trivial⟩,
  ⟨⟨zs_iinc (n := 1) (by decide +kernel) (by decide), zg_iinc _ _⟩, ⟨zs_goto (off := (-23)) (q := 4) (by decide +kernel) rfl (by decide), zg_jump _⟩, trivial⟩,
  ⟨⟨zs_iload_n (k := 1) rfl (by decide +kernel), zg_iload _⟩, ⟨zs_iret (by decide +kernel) rfl, zg_iret⟩, trivial⟩, trivial⟩
-- NeverTogether$Shelf.mixInto(J)J
def tb_23 : List zz_B := [[(1, zi_lload 1), (1, zi_lstore 3), (1, zi_push (.int 0)), (2, zi_istore 5), (0, zi_jump 1)],
  [(2, zi_iload 5), (1, zi_aload 0), (3, zi_getR 6 1), (1, zi_alen), (3, zi_cge 5), (3, zi_push (.long 31)), (1, zi_lload 3), (1, zi_lbin (fun x y => x * y)), (1, zi_aload 0), (3, zi_getR 6 1), (2, zi_iload 5), (1, zi_iald), (1, zi_i2l), (1, zi_lbin (fun x y => x + y)), (1, zi_lstore 3), (1, zi_push (.int 0)), (2, zi_istore 6), (0, zi_jump 2)],
  [(2, zi_iload 6), (1, zi_aload 0), (3, zi_getR 6 1), (2, zi_iload 5), (1, zi_iald), (3, zi_cge 4), (3, zi_push (.long 31)), (1, zi_lload 3), (1, zi_lbin (fun x y => x * y)), (1, zi_aload 0), (2, zi_iload 5), (2, zi_iload 6), (3, zi_callV 6 16 3 3)],
  [(1, zi_i2l), (1, zi_lbin (fun x y => x + y)), (1, zi_lstore 3), (3, zi_iinc 6 1), (3, zi_jump 2)],
  [(3, zi_iinc 5 1), (3, zi_jump 1)],
  [(1, zi_lload 3), (1, zi_lret)]]
def pc_23 : List Nat := [0, 5, 33, 58, 67, 73]
set_option maxRecDepth 20000 in
theorem sa_23 : zz_SA zz_mt RX6 yX6_mixInto cX6_mixInto (some .long) 7 pc_23 pc_23 tb_23 := ⟨⟨⟨zs_lload_n (k := 1) rfl (by decide +kernel), zg_lload _⟩, ⟨zs_lstore_n (k := 3) rfl (by decide +kernel), zg_lstore _⟩, ⟨zs_iconst (n := 0) (by decide +kernel) (by decide), zg_push _⟩, ⟨zs_istore (by decide +kernel), zg_istore _⟩, ⟨zs_jump rfl, zg_jump _⟩, trivial⟩,
  ⟨⟨zs_iload (by decide +kernel), zg_iload _⟩, ⟨zs_aload_n (k := 0) rfl (by decide +kernel), zg_aload _⟩, ⟨zs_getR (ci := 6) (k := 1) (C := RX6) (T := TX6) (N := 2) rfl (by decide) rfl wd_99 (by decide +kernel), zg_getR _ _⟩, ⟨zs_alen (by decide +kernel), zg_alen⟩, ⟨zs_cge (off := 61) (q := 73) (by decide +kernel) rfl (by decide), zg_cge _⟩, ⟨zs_ldc2 (i := 46) wd_973 (by decide +kernel), zg_push _⟩, ⟨zs_lload_n (k := 3) rfl (by decide +kernel), zg_lload _⟩, ⟨zs_lmul (by decide +kernel), zg_lbin _⟩, ⟨zs_aload_n (k := 0) rfl (by decide +kernel), zg_aload _⟩, ⟨zs_getR (ci := 6) (k := 1) (C := RX6) (T := TX6) (N := 2) rfl (by decide) rfl wd_99 (by decide +kernel), zg_getR _ _⟩, ⟨zs_iload (by decide +kernel), zg_iload _⟩, ⟨zs_iald (by decide +kernel), zg_iald⟩, ⟨zs_i2l (by decide +kernel), zg_i2l⟩, ⟨zs_ladd (by decide +kernel), zg_lbin _⟩, ⟨zs_lstore_n (k := 3) rfl (by decide +kernel), zg_lstore _⟩, ⟨zs_iconst (n := 0) (by decide +kernel) (by decide), zg_push _⟩, ⟨zs_istore (by decide +kernel), zg_istore _⟩, ⟨zs_jump rfl, zg_jump _⟩, trivial⟩,
  ⟨⟨zs_iload (by decide +kernel), zg_iload _⟩, ⟨zs_aload_n (k := 0) rfl (by decide +kernel), zg_aload _⟩, ⟨zs_getR (ci := 6) (k := 1) (C := RX6) (T := TX6) (N := 2) rfl (by decide) rfl wd_99 (by decide +kernel), zg_getR _ _⟩, ⟨zs_iload (by decide +kernel), zg_iload _⟩, ⟨zs_iald (by decide +kernel), zg_iald⟩, ⟨zs_cge (off := 25) (q := 67) (by decide +kernel) rfl (by decide), zg_cge _⟩, ⟨zs_ldc2 (i := 46) wd_973 (by decide +kernel), zg_push _⟩, ⟨zs_lload_n (k := 3) rfl (by decide +kernel), zg_lload _⟩, ⟨zs_lmul (by decide +kernel), zg_lbin _⟩, ⟨zs_aload_n (k := 0) rfl (by decide +kernel), zg_aload _⟩, ⟨zs_iload (by decide +kernel), zg_iload _⟩, ⟨zs_iload (by decide +kernel), zg_iload _⟩, ⟨zs_callV (ci := 6) (C := RX6) (T := TX6) (N := 2) (n := 2) rfl mk_16 rfl ⟨rfl, rfl⟩ ck_16 wd_403 wd_362 wd_363 rfl (by decide +kernel), zg_callV _ _ _ _⟩, trivial⟩,
  ⟨⟨zs_i2l (by decide +kernel), zg_i2l⟩, ⟨zs_ladd (by decide +kernel), zg_lbin _⟩, ⟨zs_lstore_n (k := 3) rfl (by decide +kernel), zg_lstore _⟩, ⟨zs_iinc (n := 1) (by decide +kernel) (by decide), zg_iinc _ _⟩, ⟨zs_goto (off := (-31)) (q := 33) (by decide +kernel) rfl (by decide), zg_jump _⟩, trivial⟩,
  ⟨⟨zs_iinc (n := 1) (by decide +kernel) (by decide), zg_iinc _ _⟩, ⟨zs_goto (off := (-65)) (q := 5) (by decide +kernel) rfl (by decide), zg_jump _⟩, trivial⟩,
  ⟨⟨zs_lload_n (k := 3) rfl (by decide +kernel), zg_lload _⟩, ⟨zs_lret (by decide +kernel) rfl, zg_lret⟩, trivial⟩, trivial⟩
-- NeverTogether$Reader.read(LNeverTogether$Shelf;I)I
def tb_24 : List zz_B := [[(1, zi_aload 1), (1, zi_iload 2), (3, zi_callV 6 15 2 1)],
  [(1, zi_istore 3), (1, zi_aload 0), (1, zi_push (.int 0)), (3, zi_putI 5 7), (1, zi_aload 0), (1, zi_push (.int 0)), (3, zi_putI 5 5), (1, zi_aload 0), (1, zi_push (.int 0)), (3, zi_putI 5 6), (1, zi_aload 0), (1, zi_aload 1), (1, zi_iload 2), (3, zi_callV 5 25 3 2)],
  [(1, zi_aload 0), (1, zi_aload 1), (1, zi_iload 2), (3, zi_callV 5 26 3 3)],
  [(3, zi_zne 4), (1, zi_aload 0), (3, zi_getI 5 7), (1, zi_iret)],
  [(1, zi_aload 0), (1, zi_aload 1), (1, zi_iload 2), (3, zi_callV 5 25 3 5)],
  [(1, zi_push (.int 0)), (2, zi_istore 4), (0, zi_jump 6)],
  [(2, zi_iload 4), (2, zi_push (.int 6)), (3, zi_cge 10), (1, zi_aload 0), (3, zi_getI 5 7), (1, zi_iload 3), (3, zi_cge 10), (1, zi_aload 0), (1, zi_aload 1), (1, zi_iload 2), (2, zi_iload 4), (3, zi_callV 5 27 4 7)],
  [(3, zi_zne 8), (1, zi_aload 0), (3, zi_getI 5 7), (1, zi_iret)],
  [(1, zi_aload 0), (1, zi_aload 1), (1, zi_iload 2), (3, zi_callV 5 25 3 9)],
  [(3, zi_iinc 4 1), (3, zi_jump 6)],
  [(1, zi_aload 0), (3, zi_getI 5 7), (1, zi_iload 3), (3, zi_clt 11), (1, zi_aload 0), (3, zi_getI 5 6), (3, zi_zne 12), (0, zi_jump 11)],
  [(1, zi_aload 0), (3, zi_getI 5 7), (3, zi_jump 13)],
  [(2, zi_push (.int (-9))), (0, zi_jump 13)],
  [(1, zi_iret)]]
def pc_24 : List Nat := [0, 5, 27, 33, 41, 47, 50, 73, 81, 87, 93, 108, 115, 117]
set_option maxRecDepth 20000 in
theorem sa_24 : zz_SA zz_mt RX5 yX5_read cX5_read (some .int) 5 pc_24 pc_24 tb_24 := ⟨⟨⟨zs_aload_n (k := 1) rfl (by decide +kernel), zg_aload _⟩, ⟨zs_iload_n (k := 2) rfl (by decide +kernel), zg_iload _⟩, ⟨zs_callV (ci := 6) (C := RX6) (T := TX6) (N := 2) (n := 1) rfl mk_15 rfl ⟨rfl, rfl⟩ ck_15 wd_420 wd_395 wd_396 rfl (by decide +kernel), zg_callV _ _ _ _⟩, trivial⟩,
  ⟨⟨zs_istore_n (k := 3) rfl (by decide +kernel), zg_istore _⟩, ⟨zs_aload_n (k := 0) rfl (by decide +kernel), zg_aload _⟩, ⟨zs_iconst (n := 0) (by decide +kernel) (by decide), zg_push _⟩, ⟨zs_putI (ci := 5) (k := 7) (C := RX5) (T := TX5) (N := 8) rfl (by decide) rfl rfl wd_126 (by decide +kernel), zg_putI _ _⟩, ⟨zs_aload_n (k := 0) rfl (by decide +kernel), zg_aload _⟩, ⟨zs_iconst (n := 0) (by decide +kernel) (by decide), zg_push _⟩, ⟨zs_putI (ci := 5) (k := 5) (C := RX5) (T := TX5) (N := 8) rfl (by decide) rfl rfl wd_123 (by decide +kernel), zg_putI _ _⟩, ⟨zs_aload_n (k := 0) rfl (by decide +kernel), zg_aload _⟩, ⟨zs_iconst (n := 0) (by decide +kernel) (by decide), zg_push _⟩, ⟨zs_putI (ci := 5) (k := 6) (C := RX5) (T := TX5) (N := 8) rfl (by decide) rfl rfl wd_125 (by decide +kernel), zg_putI _ _⟩, ⟨zs_aload_n (k := 0) rfl (by decide +kernel), zg_aload _⟩, ⟨zs_aload_n (k := 1) rfl (by decide +kernel), zg_aload _⟩, ⟨zs_iload_n (k := 2) rfl (by decide +kernel), zg_iload _⟩, ⟨zs_callV (ci := 5) (C := RX5) (T := TX5) (N := 8) (n := 2) rfl mk_25 rfl ⟨rfl, rfl⟩ ck_25 wd_421 wd_423 wd_3 rfl (by decide +kernel), zg_callV _ _ _ _⟩, trivial⟩,
  ⟨⟨zs_aload_n (k := 0) rfl (by decide +kernel), zg_aload _⟩, ⟨zs_aload_n (k := 1) rfl (by decide +kernel), zg_aload _⟩, ⟨zs_iload_n (k := 2) rfl (by decide +kernel), zg_iload _⟩, ⟨zs_callV (ci := 5) (C := RX5) (T := TX5) (N := 8) (n := 2) rfl mk_26 rfl ⟨rfl, rfl⟩ ck_26 wd_426 wd_428 wd_4 rfl (by decide +kernel), zg_callV _ _ _ _⟩, trivial⟩,
  ⟨⟨zs_zne (off := 8) (q := 41) (by decide +kernel) rfl (by decide), zg_zne _⟩, ⟨zs_aload_n (k := 0) rfl (by decide +kernel), zg_aload _⟩, ⟨zs_getI (ci := 5) (k := 7) (C := RX5) (T := TX5) (N := 8) rfl (by decide) (Or.inl rfl) wd_126 (by decide +kernel), zg_getI _ _⟩, ⟨zs_iret (by decide +kernel) rfl, zg_iret⟩, trivial⟩,
  ⟨⟨zs_aload_n (k := 0) rfl (by decide +kernel), zg_aload _⟩, ⟨zs_aload_n (k := 1) rfl (by decide +kernel), zg_aload _⟩, ⟨zs_iload_n (k := 2) rfl (by decide +kernel), zg_iload _⟩, ⟨zs_callV (ci := 5) (C := RX5) (T := TX5) (N := 8) (n := 2) rfl mk_25 rfl ⟨rfl, rfl⟩ ck_25 wd_421 wd_423 wd_3 rfl (by decide +kernel), zg_callV _ _ _ _⟩, trivial⟩,
  ⟨⟨zs_iconst (n := 0) (by decide +kernel) (by decide), zg_push _⟩, ⟨zs_istore (by decide +kernel), zg_istore _⟩, ⟨zs_jump rfl, zg_jump _⟩, trivial⟩,
  ⟨⟨zs_iload (by decide +kernel), zg_iload _⟩, ⟨zs_bipush (n := 6) (by decide +kernel) (by decide), zg_push _⟩, ⟨zs_cge (off := 39) (q := 93) (by decide +kernel) rfl (by decide), zg_cge _⟩, ⟨zs_aload_n (k := 0) rfl (by decide +kernel), zg_aload _⟩, ⟨zs_getI (ci := 5) (k := 7) (C := RX5) (T := TX5) (N := 8) rfl (by decide) (Or.inl rfl) wd_126 (by decide +kernel), zg_getI _ _⟩, ⟨zs_iload_n (k := 3) rfl (by decide +kernel), zg_iload _⟩, ⟨zs_cge (off := 31) (q := 93) (by decide +kernel) rfl (by decide), zg_cge _⟩, ⟨zs_aload_n (k := 0) rfl (by decide +kernel), zg_aload _⟩, ⟨zs_aload_n (k := 1) rfl (by decide +kernel), zg_aload _⟩, ⟨zs_iload_n (k := 2) rfl (by decide +kernel), zg_iload _⟩, ⟨zs_iload (by decide +kernel), zg_iload _⟩, ⟨zs_callV (ci := 5) (C := RX5) (T := TX5) (N := 8) (n := 3) rfl mk_27 rfl ⟨rfl, rfl⟩ ck_27 wd_435 wd_437 wd_6 rfl (by decide +kernel), zg_callV _ _ _ _⟩, trivial⟩,
  ⟨⟨zs_zne (off := 8) (q := 81) (by decide +kernel) rfl (by decide), zg_zne _⟩, ⟨zs_aload_n (k := 0) rfl (by decide +kernel), zg_aload _⟩, ⟨zs_getI (ci := 5) (k := 7) (C := RX5) (T := TX5) (N := 8) rfl (by decide) (Or.inl rfl) wd_126 (by decide +kernel), zg_getI _ _⟩, ⟨zs_iret (by decide +kernel) rfl, zg_iret⟩, trivial⟩,
  ⟨⟨zs_aload_n (k := 0) rfl (by decide +kernel), zg_aload _⟩, ⟨zs_aload_n (k := 1) rfl (by decide +kernel), zg_aload _⟩, ⟨zs_iload_n (k := 2) rfl (by decide +kernel), zg_iload _⟩, ⟨zs_callV (ci := 5) (C := RX5) (T := TX5) (N := 8) (n := 2) rfl mk_25 rfl ⟨rfl, rfl⟩ ck_25 wd_421 wd_423 wd_3 rfl (by decide +kernel), zg_callV _ _ _ _⟩, trivial⟩,
  ⟨⟨zs_iinc (n := 1) (by decide +kernel) (by decide), zg_iinc _ _⟩, ⟨zs_goto (off := (-40)) (q := 50) (by decide +kernel) rfl (by decide), zg_jump _⟩, trivial⟩,
  ⟨⟨zs_aload_n (k := 0) rfl (by decide +kernel), zg_aload _⟩, ⟨zs_getI (ci := 5) (k := 7) (C := RX5) (T := TX5) (N := 8) rfl (by decide) (Or.inl rfl) wd_126 (by decide +kernel), zg_getI _ _⟩, ⟨zs_iload_n (k := 3) rfl (by decide +kernel), zg_iload _⟩, ⟨zs_clt (off := 10) (q := 108) (by decide +kernel) rfl (by decide), zg_clt _⟩, ⟨zs_aload_n (k := 0) rfl (by decide +kernel), zg_aload _⟩, ⟨zs_getI (ci := 5) (k := 6) (C := RX5) (T := TX5) (N := 8) rfl (by decide) (Or.inl rfl) wd_125 (by decide +kernel), zg_getI _ _⟩, ⟨zs_zne (off := 10) (q := 115) (by decide +kernel) rfl (by decide), zg_zne _⟩, ⟨zs_jump rfl, zg_jump _⟩, trivial⟩,
  ⟨⟨zs_aload_n (k := 0) rfl (by decide +kernel), zg_aload _⟩, ⟨zs_getI (ci := 5) (k := 7) (C := RX5) (T := TX5) (N := 8) rfl (by decide) (Or.inl rfl) wd_126 (by decide +kernel), zg_getI _ _⟩, ⟨zs_goto (off := 5) (q := 117) (by decide +kernel) rfl (by decide), zg_jump _⟩, trivial⟩,
  ⟨⟨zs_bipush (n := (-9)) (by decide +kernel) (by decide), zg_push _⟩, ⟨zs_jump rfl, zg_jump _⟩, trivial⟩,
  ⟨⟨zs_iret (by decide +kernel) rfl, zg_iret⟩, trivial⟩, trivial⟩
-- NeverTogether$Reader.skipBlanks(LNeverTogether$Shelf;I)V
def tb_25 : List zz_B := [[(1, zi_aload 1), (1, zi_iload 2), (3, zi_callV 6 15 2 1)],
  [(1, zi_istore 3), (0, zi_jump 2)],
  [(1, zi_aload 0), (3, zi_getI 5 7), (1, zi_iload 3), (3, zi_cge 4), (1, zi_aload 1), (1, zi_iload 2), (1, zi_aload 0), (3, zi_getI 5 7), (3, zi_callV 6 16 3 3)],
  [(2, zi_push (.int 32)), (3, zi_cne 4), (1, zi_aload 0), (1, zi_dup), (3, zi_getI 5 7), (1, zi_push (.int 1)), (1, zi_ibin (fun x y => x + y)), (3, zi_putI 5 7), (3, zi_jump 2)],
  [(1, zi_vret)]]
def pc_25 : List Nat := [0, 5, 6, 23, 41]
set_option maxRecDepth 20000 in
theorem sa_25 : zz_SA zz_mt RX5 yX5_skipBlanks cX5_skipBlanks none 4 pc_25 pc_25 tb_25 := ⟨⟨⟨zs_aload_n (k := 1) rfl (by decide +kernel), zg_aload _⟩, ⟨zs_iload_n (k := 2) rfl (by decide +kernel), zg_iload _⟩, ⟨zs_callV (ci := 6) (C := RX6) (T := TX6) (N := 2) (n := 1) rfl mk_15 rfl ⟨rfl, rfl⟩ ck_15 wd_420 wd_395 wd_396 rfl (by decide +kernel), zg_callV _ _ _ _⟩, trivial⟩,
  ⟨⟨zs_istore_n (k := 3) rfl (by decide +kernel), zg_istore _⟩, ⟨zs_jump rfl, zg_jump _⟩, trivial⟩,
  ⟨⟨zs_aload_n (k := 0) rfl (by decide +kernel), zg_aload _⟩, ⟨zs_getI (ci := 5) (k := 7) (C := RX5) (T := TX5) (N := 8) rfl (by decide) (Or.inl rfl) wd_126 (by decide +kernel), zg_getI _ _⟩, ⟨zs_iload_n (k := 3) rfl (by decide +kernel), zg_iload _⟩, ⟨zs_cge (off := 30) (q := 41) (by decide +kernel) rfl (by decide), zg_cge _⟩, ⟨zs_aload_n (k := 1) rfl (by decide +kernel), zg_aload _⟩, ⟨zs_iload_n (k := 2) rfl (by decide +kernel), zg_iload _⟩, ⟨zs_aload_n (k := 0) rfl (by decide +kernel), zg_aload _⟩, ⟨zs_getI (ci := 5) (k := 7) (C := RX5) (T := TX5) (N := 8) rfl (by decide) (Or.inl rfl) wd_126 (by decide +kernel), zg_getI _ _⟩, ⟨zs_callV (ci := 6) (C := RX6) (T := TX6) (N := 2) (n := 2) rfl mk_16 rfl ⟨rfl, rfl⟩ ck_16 wd_425 wd_362 wd_363 rfl (by decide +kernel), zg_callV _ _ _ _⟩, trivial⟩,
  ⟨⟨zs_bipush (n := 32) (by decide +kernel) (by decide), zg_push _⟩, ⟨zs_cne (off := 16) (q := 41) (by decide +kernel) rfl (by decide), zg_cne _⟩, ⟨zs_aload_n (k := 0) rfl (by decide +kernel), zg_aload _⟩, ⟨zs_dup (by decide +kernel), zg_dup⟩, ⟨zs_getI (ci := 5) (k := 7) (C := RX5) (T := TX5) (N := 8) rfl (by decide) (Or.inl rfl) wd_126 (by decide +kernel), zg_getI _ _⟩, ⟨zs_iconst (n := 1) (by decide +kernel) (by decide), zg_push _⟩, ⟨zs_iadd (by decide +kernel), zg_ibin _⟩, ⟨zs_putI (ci := 5) (k := 7) (C := RX5) (T := TX5) (N := 8) rfl (by decide) rfl rfl wd_126 (by decide +kernel), zg_putI _ _⟩, ⟨zs_goto (off := (-32)) (q := 6) (by decide +kernel) rfl (by decide), zg_jump _⟩, trivial⟩,
  ⟨⟨zs_vret (by decide +kernel) rfl, zg_vret⟩, trivial⟩, trivial⟩
-- NeverTogether$Reader.takeHeats(LNeverTogether$Shelf;I)Z
def tb_26 : List zz_B := [[(1, zi_aload 1), (1, zi_iload 2), (1, zi_aload 0), (3, zi_getI 5 7), (3, zi_callV 6 13 3 1)],
  [(3, zi_zeq 3), (1, zi_aload 1), (1, zi_iload 2), (1, zi_aload 0), (3, zi_getI 5 7), (3, zi_callV 6 16 3 2)],
  [(2, zi_push (.int 122)), (3, zi_ceq 4), (0, zi_jump 3)],
  [(1, zi_push (.int 0)), (1, zi_zret)],
  [(1, zi_aload 0), (1, zi_dup), (3, zi_getI 5 7), (1, zi_push (.int 1)), (1, zi_ibin (fun x y => x + y)), (3, zi_putI 5 7), (1, zi_push (.int 0)), (1, zi_istore 3), (0, zi_jump 5)],
  [(1, zi_iload 3), (2, zi_push (.int 7)), (3, zi_cge 8), (1, zi_aload 0), (1, zi_aload 1), (1, zi_iload 2), (1, zi_push (.int 3)), (3, zi_callV 5 28 4 6)],
  [(2, zi_istore 4), (2, zi_iload 4), (3, zi_zge 7), (3, zi_jump 8)],
  [(1, zi_aload 0), (3, zi_getR 5 0), (1, zi_iload 3), (2, zi_iload 4), (1, zi_iast), (1, zi_aload 0), (1, zi_iload 3), (1, zi_push (.int 1)), (1, zi_ibin (fun x y => x + y)), (3, zi_putI 5 5), (3, zi_iinc 3 1), (3, zi_jump 5)],
  [(1, zi_aload 0), (3, zi_getI 5 5), (3, zi_zle 9), (1, zi_push (.int 1)), (3, zi_jump 10)],
  [(1, zi_push (.int 0)), (0, zi_jump 10)],
  [(1, zi_zret)]]
def pc_26 : List Nat := [0, 9, 21, 26, 28, 40, 53, 63, 84, 95, 96]
set_option maxRecDepth 20000 in
theorem sa_26 : zz_SA zz_mt RX5 yX5_takeHeats cX5_takeHeats (some .boolean) 5 pc_26 pc_26 tb_26 := ⟨⟨⟨zs_aload_n (k := 1) rfl (by decide +kernel), zg_aload _⟩, ⟨zs_iload_n (k := 2) rfl (by decide +kernel), zg_iload _⟩, ⟨zs_aload_n (k := 0) rfl (by decide +kernel), zg_aload _⟩, ⟨zs_getI (ci := 5) (k := 7) (C := RX5) (T := TX5) (N := 8) rfl (by decide) (Or.inl rfl) wd_126 (by decide +kernel), zg_getI _ _⟩, ⟨zs_callV (ci := 6) (C := RX6) (T := TX6) (N := 2) (n := 2) rfl mk_13 rfl ⟨rfl, rfl⟩ ck_13 wd_430 wd_349 wd_350 rfl (by decide +kernel), zg_callV _ _ _ _⟩, trivial⟩,
  ⟨⟨zs_zeq (off := 17) (q := 26) (by decide +kernel) rfl (by decide), zg_zeq _⟩, ⟨zs_aload_n (k := 1) rfl (by decide +kernel), zg_aload _⟩, ⟨zs_iload_n (k := 2) rfl (by decide +kernel), zg_iload _⟩, ⟨zs_aload_n (k := 0) rfl (by decide +kernel), zg_aload _⟩, ⟨zs_getI (ci := 5) (k := 7) (C := RX5) (T := TX5) (N := 8) rfl (by decide) (Or.inl rfl) wd_126 (by decide +kernel), zg_getI _ _⟩, ⟨zs_callV (ci := 6) (C := RX6) (T := TX6) (N := 2) (n := 2) rfl mk_16 rfl ⟨rfl, rfl⟩ ck_16 wd_425 wd_362 wd_363 rfl (by decide +kernel), zg_callV _ _ _ _⟩, trivial⟩,
  ⟨⟨zs_bipush (n := 122) (by decide +kernel) (by decide), zg_push _⟩, ⟨zs_ceq (off := 5) (q := 28) (by decide +kernel) rfl (by decide), zg_ceq _⟩, ⟨zs_jump rfl, zg_jump _⟩, trivial⟩,
  ⟨⟨zs_iconst (n := 0) (by decide +kernel) (by decide), zg_push _⟩, ⟨zs_zret (by decide +kernel) rfl, zg_zret⟩, trivial⟩,
  ⟨⟨zs_aload_n (k := 0) rfl (by decide +kernel), zg_aload _⟩, ⟨zs_dup (by decide +kernel), zg_dup⟩, ⟨zs_getI (ci := 5) (k := 7) (C := RX5) (T := TX5) (N := 8) rfl (by decide) (Or.inl rfl) wd_126 (by decide +kernel), zg_getI _ _⟩, ⟨zs_iconst (n := 1) (by decide +kernel) (by decide), zg_push _⟩, ⟨zs_iadd (by decide +kernel), zg_ibin _⟩, ⟨zs_putI (ci := 5) (k := 7) (C := RX5) (T := TX5) (N := 8) rfl (by decide) rfl rfl wd_126 (by decide +kernel), zg_putI _ _⟩, ⟨zs_iconst (n := 0) (by decide +kernel) (by decide), zg_push _⟩, ⟨zs_istore_n (k := 3) rfl (by decide +kernel), zg_istore _⟩, ⟨zs_jump rfl, zg_jump _⟩, trivial⟩,
  ⟨⟨zs_iload_n (k := 3) rfl (by decide +kernel), zg_iload _⟩, ⟨zs_bipush (n := 7) (by decide +kernel) (by decide), zg_push _⟩, ⟨zs_cge (off := 41) (q := 84) (by decide +kernel) rfl (by decide), zg_cge _⟩, ⟨zs_aload_n (k := 0) rfl (by decide +kernel), zg_aload _⟩, ⟨zs_aload_n (k := 1) rfl (by decide +kernel), zg_aload _⟩, ⟨zs_iload_n (k := 2) rfl (by decide +kernel), zg_iload _⟩, ⟨zs_iconst (n := 3) (by decide +kernel) (by decide), zg_push _⟩, ⟨zs_callV (ci := 5) (C := RX5) (T := TX5) (N := 8) (n := 3) rfl mk_28 rfl ⟨rfl, rfl⟩ ck_28 wd_431 wd_433 wd_5 rfl (by decide +kernel), zg_callV _ _ _ _⟩, trivial⟩,
  ⟨⟨zs_istore (by decide +kernel), zg_istore _⟩, ⟨zs_iload (by decide +kernel), zg_iload _⟩, ⟨zs_zge (off := 6) (q := 63) (by decide +kernel) rfl (by decide), zg_zge _⟩, ⟨zs_goto (off := 24) (q := 84) (by decide +kernel) rfl (by decide), zg_jump _⟩, trivial⟩,
  ⟨⟨zs_aload_n (k := 0) rfl (by decide +kernel), zg_aload _⟩, ⟨zs_getR (ci := 5) (k := 0) (C := RX5) (T := TX5) (N := 8) rfl (by decide) rfl wd_112 (by decide +kernel), zg_getR _ _⟩, ⟨zs_iload_n (k := 3) rfl (by decide +kernel), zg_iload _⟩, ⟨zs_iload (by decide +kernel), zg_iload _⟩, ⟨zs_iast (by decide +kernel), zg_iast⟩, ⟨zs_aload_n (k := 0) rfl (by decide +kernel), zg_aload _⟩, ⟨zs_iload_n (k := 3) rfl (by decide +kernel), zg_iload _⟩, ⟨zs_iconst (n := 1) (by decide +kernel) (by decide), zg_push _⟩, ⟨zs_iadd (by decide +kernel), zg_ibin _⟩, ⟨zs_putI (ci := 5) (k := 5) (C := RX5) (T := TX5) (N := 8) rfl (by decide) rfl rfl wd_123 (by decide +kernel), zg_putI _ _⟩, ⟨zs_iinc (n := 1) (by decide +kernel) (by decide), zg_iinc _ _⟩, ⟨zs_goto (off := (-41)) (q := 40) (by decide +kernel) rfl (by decide), zg_jump _⟩, trivial⟩,
  ⟨⟨zs_aload_n (k := 0) rfl (by decide +kernel), zg_aload _⟩, ⟨zs_getI (ci := 5) (k := 5) (C := RX5) (T := TX5) (N := 8) rfl (by decide) (Or.inl rfl) wd_123 (by decide +kernel), zg_getI _ _⟩, ⟨zs_zle (off := 7) (q := 95) (by decide +kernel) rfl (by decide), zg_zle _⟩, ⟨zs_iconst (n := 1) (by decide +kernel) (by decide), zg_push _⟩, ⟨zs_goto (off := 4) (q := 96) (by decide +kernel) rfl (by decide), zg_jump _⟩, trivial⟩,
  ⟨⟨zs_iconst (n := 0) (by decide +kernel) (by decide), zg_push _⟩, ⟨zs_jump rfl, zg_jump _⟩, trivial⟩,
  ⟨⟨zs_zret (by decide +kernel) rfl, zg_zret⟩, trivial⟩, trivial⟩
-- NeverTogether$Reader.takePiece(LNeverTogether$Shelf;II)Z
def tb_27 : List zz_B := [[(1, zi_aload 1), (1, zi_iload 2), (1, zi_aload 0), (3, zi_getI 5 7), (3, zi_callV 6 16 3 1)],
  [(3, zi_callS 29 1 2)],
  [(2, zi_istore 4), (2, zi_iload 4), (3, zi_zge 3), (1, zi_push (.int 0)), (1, zi_zret)],
  [(1, zi_aload 0), (1, zi_dup), (3, zi_getI 5 7), (1, zi_push (.int 1)), (1, zi_ibin (fun x y => x + y)), (3, zi_putI 5 7), (1, zi_aload 0), (1, zi_aload 1), (1, zi_iload 2), (1, zi_push (.int 5)), (3, zi_callV 5 28 4 4)],
  [(2, zi_istore 5), (2, zi_iload 5), (3, zi_zge 5), (1, zi_push (.int (-1))), (3, zi_jump 6)],
  [(1, zi_aload 0), (1, zi_aload 1), (1, zi_iload 2), (2, zi_push (.int 9)), (3, zi_callV 5 28 4 6)],
  [(2, zi_istore 6), (2, zi_iload 6), (3, zi_zge 7), (1, zi_push (.int (-1))), (3, zi_jump 8)],
  [(1, zi_aload 0), (1, zi_aload 1), (1, zi_iload 2), (2, zi_push (.int 9)), (3, zi_callV 5 28 4 8)],
  [(2, zi_istore 7), (2, zi_iload 7), (3, zi_zge 9), (1, zi_push (.int (-1))), (3, zi_jump 10)],
  [(1, zi_aload 0), (1, zi_aload 1), (1, zi_iload 2), (1, zi_push (.int 3)), (3, zi_callV 5 28 4 10)],
  [(2, zi_istore 8), (2, zi_iload 8), (3, zi_zge 11), (1, zi_push (.int 0)), (1, zi_zret)],
  [(1, zi_aload 0), (3, zi_getR 5 1), (1, zi_iload 3), (2, zi_iload 4), (1, zi_iast), (1, zi_aload 0), (3, zi_getR 5 2), (1, zi_iload 3), (2, zi_push (.int 10)), (2, zi_iload 5), (1, zi_ibin (fun x y => x * y)), (2, zi_iload 6), (1, zi_ibin (fun x y => x + y)), (1, zi_iast), (1, zi_aload 0), (3, zi_getR 5 3), (1, zi_iload 3), (2, zi_iload 7), (1, zi_push (.int 4)), (1, zi_ibin (fun x y => x - y)), (1, zi_iast), (1, zi_aload 0), (3, zi_getR 5 4), (1, zi_iload 3), (2, zi_iload 8), (1, zi_iast), (1, zi_aload 0), (1, zi_iload 3), (1, zi_push (.int 1)), (1, zi_ibin (fun x y => x + y)), (3, zi_putI 5 6), (1, zi_push (.int 1)), (1, zi_zret)]]
def pc_27 : List Nat := [0, 9, 12, 21, 38, 49, 57, 68, 76, 87, 94, 103]
set_option maxRecDepth 20000 in
theorem sa_27 : zz_SA zz_mt RX5 yX5_takePiece cX5_takePiece (some .boolean) 9 pc_27 pc_27 tb_27 := ⟨⟨⟨zs_aload_n (k := 1) rfl (by decide +kernel), zg_aload _⟩, ⟨zs_iload_n (k := 2) rfl (by decide +kernel), zg_iload _⟩, ⟨zs_aload_n (k := 0) rfl (by decide +kernel), zg_aload _⟩, ⟨zs_getI (ci := 5) (k := 7) (C := RX5) (T := TX5) (N := 8) rfl (by decide) (Or.inl rfl) wd_126 (by decide +kernel), zg_getI _ _⟩, ⟨zs_callV (ci := 6) (C := RX6) (T := TX6) (N := 2) (n := 2) rfl mk_16 rfl ⟨rfl, rfl⟩ ck_16 wd_425 wd_362 wd_363 rfl (by decide +kernel), zg_callV _ _ _ _⟩, trivial⟩,
  ⟨⟨zs_callS (n := 1) mk_29 ⟨rfl, rfl⟩ ck_29 wd_439 wd_440 wd_71 rfl (by decide +kernel), zg_callS _ _ _⟩, trivial⟩,
  ⟨⟨zs_istore (by decide +kernel), zg_istore _⟩, ⟨zs_iload (by decide +kernel), zg_iload _⟩, ⟨zs_zge (off := 5) (q := 21) (by decide +kernel) rfl (by decide), zg_zge _⟩, ⟨zs_iconst (n := 0) (by decide +kernel) (by decide), zg_push _⟩, ⟨zs_zret (by decide +kernel) rfl, zg_zret⟩, trivial⟩,
  ⟨⟨zs_aload_n (k := 0) rfl (by decide +kernel), zg_aload _⟩, ⟨zs_dup (by decide +kernel), zg_dup⟩, ⟨zs_getI (ci := 5) (k := 7) (C := RX5) (T := TX5) (N := 8) rfl (by decide) (Or.inl rfl) wd_126 (by decide +kernel), zg_getI _ _⟩, ⟨zs_iconst (n := 1) (by decide +kernel) (by decide), zg_push _⟩, ⟨zs_iadd (by decide +kernel), zg_ibin _⟩, ⟨zs_putI (ci := 5) (k := 7) (C := RX5) (T := TX5) (N := 8) rfl (by decide) rfl rfl wd_126 (by decide +kernel), zg_putI _ _⟩, ⟨zs_aload_n (k := 0) rfl (by decide +kernel), zg_aload _⟩, ⟨zs_aload_n (k := 1) rfl (by decide +kernel), zg_aload _⟩, ⟨zs_iload_n (k := 2) rfl (by decide +kernel), zg_iload _⟩, ⟨zs_iconst (n := 5) (by decide +kernel) (by decide), zg_push _⟩, ⟨zs_callV (ci := 5) (C := RX5) (T := TX5) (N := 8) (n := 3) rfl mk_28 rfl ⟨rfl, rfl⟩ ck_28 wd_431 wd_433 wd_5 rfl (by decide +kernel), zg_callV _ _ _ _⟩, trivial⟩,
  ⟨⟨zs_istore (by decide +kernel), zg_istore _⟩, ⟨zs_iload (by decide +kernel), zg_iload _⟩, ⟨zs_zge (off := 7) (q := 49) (by decide +kernel) rfl (by decide), zg_zge _⟩, ⟨zs_iconst (n := (-1)) (by decide +kernel) (by decide), zg_push _⟩, ⟨zs_goto (off := 11) (q := 57) (by decide +kernel) rfl (by decide), zg_jump _⟩, trivial⟩,
  ⟨⟨zs_aload_n (k := 0) rfl (by decide +kernel), zg_aload _⟩, ⟨zs_aload_n (k := 1) rfl (by decide +kernel), zg_aload _⟩, ⟨zs_iload_n (k := 2) rfl (by decide +kernel), zg_iload _⟩, ⟨zs_bipush (n := 9) (by decide +kernel) (by decide), zg_push _⟩, ⟨zs_callV (ci := 5) (C := RX5) (T := TX5) (N := 8) (n := 3) rfl mk_28 rfl ⟨rfl, rfl⟩ ck_28 wd_431 wd_433 wd_5 rfl (by decide +kernel), zg_callV _ _ _ _⟩, trivial⟩,
  ⟨⟨zs_istore (by decide +kernel), zg_istore _⟩, ⟨zs_iload (by decide +kernel), zg_iload _⟩, ⟨zs_zge (off := 7) (q := 68) (by decide +kernel) rfl (by decide), zg_zge _⟩, ⟨zs_iconst (n := (-1)) (by decide +kernel) (by decide), zg_push _⟩, ⟨zs_goto (off := 11) (q := 76) (by decide +kernel) rfl (by decide), zg_jump _⟩, trivial⟩,
  ⟨⟨zs_aload_n (k := 0) rfl (by decide +kernel), zg_aload _⟩, ⟨zs_aload_n (k := 1) rfl (by decide +kernel), zg_aload _⟩, ⟨zs_iload_n (k := 2) rfl (by decide +kernel), zg_iload _⟩, ⟨zs_bipush (n := 9) (by decide +kernel) (by decide), zg_push _⟩, ⟨zs_callV (ci := 5) (C := RX5) (T := TX5) (N := 8) (n := 3) rfl mk_28 rfl ⟨rfl, rfl⟩ ck_28 wd_431 wd_433 wd_5 rfl (by decide +kernel), zg_callV _ _ _ _⟩, trivial⟩,
  ⟨⟨zs_istore (by decide +kernel), zg_istore _⟩, ⟨zs_iload (by decide +kernel), zg_iload _⟩, ⟨zs_zge (off := 7) (q := 87) (by decide +kernel) rfl (by decide), zg_zge _⟩, ⟨zs_iconst (n := (-1)) (by decide +kernel) (by decide), zg_push _⟩, ⟨zs_goto (off := 10) (q := 94) (by decide +kernel) rfl (by decide), zg_jump _⟩, trivial⟩,
  ⟨⟨zs_aload_n (k := 0) rfl (by decide +kernel), zg_aload _⟩, ⟨zs_aload_n (k := 1) rfl (by decide +kernel), zg_aload _⟩, ⟨zs_iload_n (k := 2) rfl (by decide +kernel), zg_iload _⟩, ⟨zs_iconst (n := 3) (by decide +kernel) (by decide), zg_push _⟩, ⟨zs_callV (ci := 5) (C := RX5) (T := TX5) (N := 8) (n := 3) rfl mk_28 rfl ⟨rfl, rfl⟩ ck_28 wd_431 wd_433 wd_5 rfl (by decide +kernel), zg_callV _ _ _ _⟩, trivial⟩,
  ⟨⟨zs_istore (by decide +kernel), zg_istore _⟩, ⟨zs_iload (by decide +kernel), zg_iload _⟩, ⟨zs_zge (off := 5) (q := 103) (by decide +kernel) rfl (by decide), zg_zge _⟩, ⟨zs_iconst (n := 0) (by decide +kernel) (by decide), zg_push _⟩, ⟨zs_zret (by decide +kernel) rfl, zg_zret⟩, trivial⟩,
  ⟨⟨zs_aload_n (k := 0) rfl (by decide +kernel), zg_aload _⟩, ⟨zs_getR (ci := 5) (k := 1) (C := RX5) (T := TX5) (N := 8) rfl (by decide) rfl wd_114 (by decide +kernel), zg_getR _ _⟩, ⟨zs_iload_n (k := 3) rfl (by decide +kernel), zg_iload _⟩, ⟨zs_iload (by decide +kernel), zg_iload _⟩, ⟨zs_iast (by decide +kernel), zg_iast⟩, ⟨zs_aload_n (k := 0) rfl (by decide +kernel), zg_aload _⟩, ⟨zs_getR (ci := 5) (k := 2) (C := RX5) (T := TX5) (N := 8) rfl (by decide) rfl wd_116 (by decide +kernel), zg_getR _ _⟩, ⟨zs_iload_n (k := 3) rfl (by decide +kernel), zg_iload _⟩, ⟨zs_bipush (n := 10) (by decide +kernel) (by decide), zg_push _⟩, ⟨zs_iload (by decide +kernel), zg_iload _⟩, ⟨zs_imul (by decide +kernel), zg_ibin _⟩, ⟨zs_iload (by decide +kernel), zg_iload _⟩, ⟨zs_iadd (by decide +kernel), zg_ibin _⟩, ⟨zs_iast (by decide +kernel), zg_iast⟩, ⟨zs_aload_n (k := 0) rfl (by decide +kernel), zg_aload _⟩, ⟨zs_getR (ci := 5) (k := 3) (C := RX5) (T := TX5) (N := 8) rfl (by decide) rfl wd_118 (by decide +kernel), zg_getR _ _⟩, ⟨zs_iload_n (k := 3) rfl (by decide +kernel), zg_iload _⟩, ⟨zs_iload (by decide +kernel), zg_iload _⟩, ⟨zs_iconst (n := 4) (by decide +kernel) (by decide), zg_push _⟩, ⟨zs_isub (by decide +kernel), zg_ibin _⟩, ⟨zs_iast (by decide +kernel), zg_iast⟩, ⟨zs_aload_n (k := 0) rfl (by decide +kernel), zg_aload _⟩, ⟨zs_getR (ci := 5) (k := 4) (C := RX5) (T := TX5) (N := 8) rfl (by decide) rfl wd_120 (by decide +kernel), zg_getR _ _⟩, ⟨zs_iload_n (k := 3) rfl (by decide +kernel), zg_iload _⟩, ⟨zs_iload (by decide +kernel), zg_iload _⟩, ⟨zs_iast (by decide +kernel), zg_iast⟩, ⟨zs_aload_n (k := 0) rfl (by decide +kernel), zg_aload _⟩, ⟨zs_iload_n (k := 3) rfl (by decide +kernel), zg_iload _⟩, ⟨zs_iconst (n := 1) (by decide +kernel) (by decide), zg_push _⟩, ⟨zs_iadd (by decide +kernel), zg_ibin _⟩, ⟨zs_putI (ci := 5) (k := 6) (C := RX5) (T := TX5) (N := 8) rfl (by decide) rfl rfl wd_125 (by decide +kernel), zg_putI _ _⟩, ⟨zs_iconst (n := 1) (by decide +kernel) (by decide), zg_push _⟩, ⟨zs_zret (by decide +kernel) rfl, zg_zret⟩, trivial⟩, trivial⟩
-- NeverTogether$Reader.takeFigure(LNeverTogether$Shelf;II)I
def tb_28 : List zz_B := [[(1, zi_aload 1), (1, zi_iload 2), (1, zi_aload 0), (3, zi_getI 5 7), (3, zi_callV 6 13 3 1)],
  [(3, zi_zne 2), (1, zi_push (.int (-1))), (1, zi_iret)],
  [(1, zi_aload 1), (1, zi_iload 2), (1, zi_aload 0), (3, zi_getI 5 7), (3, zi_callV 6 16 3 3)],
  [(2, zi_push (.int 48)), (1, zi_ibin (fun x y => x - y)), (2, zi_istore 4), (2, zi_iload 4), (3, zi_zlt 4), (2, zi_iload 4), (1, zi_iload 3), (3, zi_cle 5), (0, zi_jump 4)],
  [(1, zi_push (.int (-1))), (1, zi_iret)],
  [(1, zi_aload 0), (1, zi_dup), (3, zi_getI 5 7), (1, zi_push (.int 1)), (1, zi_ibin (fun x y => x + y)), (3, zi_putI 5 7), (2, zi_iload 4), (1, zi_iret)]]
def pc_28 : List Nat := [0, 9, 14, 23, 39, 41]
set_option maxRecDepth 20000 in
theorem sa_28 : zz_SA zz_mt RX5 yX5_takeFigure cX5_takeFigure (some .int) 5 pc_28 pc_28 tb_28 := ⟨⟨⟨zs_aload_n (k := 1) rfl (by decide +kernel), zg_aload _⟩, ⟨zs_iload_n (k := 2) rfl (by decide +kernel), zg_iload _⟩, ⟨zs_aload_n (k := 0) rfl (by decide +kernel), zg_aload _⟩, ⟨zs_getI (ci := 5) (k := 7) (C := RX5) (T := TX5) (N := 8) rfl (by decide) (Or.inl rfl) wd_126 (by decide +kernel), zg_getI _ _⟩, ⟨zs_callV (ci := 6) (C := RX6) (T := TX6) (N := 2) (n := 2) rfl mk_13 rfl ⟨rfl, rfl⟩ ck_13 wd_430 wd_349 wd_350 rfl (by decide +kernel), zg_callV _ _ _ _⟩, trivial⟩,
  ⟨⟨zs_zne (off := 5) (q := 14) (by decide +kernel) rfl (by decide), zg_zne _⟩, ⟨zs_iconst (n := (-1)) (by decide +kernel) (by decide), zg_push _⟩, ⟨zs_iret (by decide +kernel) rfl, zg_iret⟩, trivial⟩,
  ⟨⟨zs_aload_n (k := 1) rfl (by decide +kernel), zg_aload _⟩, ⟨zs_iload_n (k := 2) rfl (by decide +kernel), zg_iload _⟩, ⟨zs_aload_n (k := 0) rfl (by decide +kernel), zg_aload _⟩, ⟨zs_getI (ci := 5) (k := 7) (C := RX5) (T := TX5) (N := 8) rfl (by decide) (Or.inl rfl) wd_126 (by decide +kernel), zg_getI _ _⟩, ⟨zs_callV (ci := 6) (C := RX6) (T := TX6) (N := 2) (n := 2) rfl mk_16 rfl ⟨rfl, rfl⟩ ck_16 wd_425 wd_362 wd_363 rfl (by decide +kernel), zg_callV _ _ _ _⟩, trivial⟩,
  ⟨⟨zs_bipush (n := 48) (by decide +kernel) (by decide), zg_push _⟩, ⟨zs_isub (by decide +kernel), zg_ibin _⟩, ⟨zs_istore (by decide +kernel), zg_istore _⟩, ⟨zs_iload (by decide +kernel), zg_iload _⟩, ⟨zs_zlt (off := 9) (q := 39) (by decide +kernel) rfl (by decide), zg_zlt _⟩, ⟨zs_iload (by decide +kernel), zg_iload _⟩, ⟨zs_iload_n (k := 3) rfl (by decide +kernel), zg_iload _⟩, ⟨zs_cle (off := 5) (q := 41) (by decide +kernel) rfl (by decide), zg_cle _⟩, ⟨zs_jump rfl, zg_jump _⟩, trivial⟩,
  ⟨⟨zs_iconst (n := (-1)) (by decide +kernel) (by decide), zg_push _⟩, ⟨zs_iret (by decide +kernel) rfl, zg_iret⟩, trivial⟩,
  ⟨⟨zs_aload_n (k := 0) rfl (by decide +kernel), zg_aload _⟩, ⟨zs_dup (by decide +kernel), zg_dup⟩, ⟨zs_getI (ci := 5) (k := 7) (C := RX5) (T := TX5) (N := 8) rfl (by decide) (Or.inl rfl) wd_126 (by decide +kernel), zg_getI _ _⟩, ⟨zs_iconst (n := 1) (by decide +kernel) (by decide), zg_push _⟩, ⟨zs_iadd (by decide +kernel), zg_ibin _⟩, ⟨zs_putI (ci := 5) (k := 7) (C := RX5) (T := TX5) (N := 8) rfl (by decide) rfl rfl wd_126 (by decide +kernel), zg_putI _ _⟩, ⟨zs_iload (by decide +kernel), zg_iload _⟩, ⟨zs_iret (by decide +kernel) rfl, zg_iret⟩, trivial⟩, trivial⟩
-- NeverTogether$Reader.kindOf(I)I
def tb_29 : List zz_B := [[(1, zi_push (.int 0)), (1, zi_istore 1), (0, zi_jump 1)],
  [(1, zi_iload 1), (2, zi_push (.int 6)), (3, zi_cge 3), (3, zi_push (.ref 1000)), (1, zi_iload 1), (1, zi_iald), (1, zi_iload 0), (3, zi_cne 2), (1, zi_iload 1), (1, zi_iret)],
  [(3, zi_iinc 1 1), (3, zi_jump 1)],
  [(1, zi_push (.int (-1))), (1, zi_iret)]]
def pc_29 : List Nat := [0, 2, 19, 25]
set_option maxRecDepth 20000 in
theorem sa_29 : zz_SA zz_mt RX5 yX5_kindOf cX5_kindOf (some .int) 2 pc_29 pc_29 tb_29 := ⟨⟨⟨zs_iconst (n := 0) (by decide +kernel) (by decide), zg_push _⟩, ⟨zs_istore_n (k := 1) rfl (by decide +kernel), zg_istore _⟩, ⟨zs_jump rfl, zg_jump _⟩, trivial⟩,
  ⟨⟨zs_iload_n (k := 1) rfl (by decide +kernel), zg_iload _⟩, ⟨zs_bipush (n := 6) (by decide +kernel) (by decide), zg_push _⟩, ⟨zs_cge (off := 20) (q := 25) (by decide +kernel) rfl (by decide), zg_cge _⟩, ⟨zs_getsN (j := 0) (by decide) wn_442 (by decide +kernel), zg_push _⟩, ⟨zs_iload_n (k := 1) rfl (by decide +kernel), zg_iload _⟩, ⟨zs_iald (by decide +kernel), zg_iald⟩, ⟨zs_iload_n (k := 0) rfl (by decide +kernel), zg_iload _⟩, ⟨zs_cne (off := 5) (q := 19) (by decide +kernel) rfl (by decide), zg_cne _⟩, ⟨zs_iload_n (k := 1) rfl (by decide +kernel), zg_iload _⟩, ⟨zs_iret (by decide +kernel) rfl, zg_iret⟩, trivial⟩,
  ⟨⟨zs_iinc (n := 1) (by decide +kernel) (by decide), zg_iinc _ _⟩, ⟨zs_goto (off := (-20)) (q := 2) (by decide +kernel) rfl (by decide), zg_jump _⟩, trivial⟩,
  ⟨⟨zs_iconst (n := (-1)) (by decide +kernel) (by decide), zg_push _⟩, ⟨zs_iret (by decide +kernel) rfl, zg_iret⟩, trivial⟩, trivial⟩
