/-! blocks of methods, and that they are what stands in the class file: printed by program -/
-- NeverTogether$House.furnish(LNeverTogether$Reader;)V
def tb_30 : List zz_B := [[(1, zi_aload 0), (1, zi_aload 1), (3, zi_getI 5 5), (3, zi_putI 2 9), (1, zi_aload 0), (1, zi_aload 1), (3, zi_getI 5 6), (3, zi_putI 2 10), (1, zi_push (.int 0)), (1, zi_istore 2), (0, zi_jump 1)],
  [(1, zi_iload 2), (2, zi_push (.int 7)), (3, zi_cge 2), (1, zi_aload 0), (3, zi_getR 2 0), (1, zi_iload 2), (1, zi_aload 1), (3, zi_getR 5 0), (1, zi_iload 2), (1, zi_iald), (1, zi_iast), (3, zi_iinc 2 1), (3, zi_jump 1)],
  [(1, zi_push (.int 0)), (1, zi_istore 2), (0, zi_jump 3)],
  [(1, zi_iload 2), (2, zi_push (.int 6)), (3, zi_cge 4), (1, zi_aload 0), (3, zi_getR 2 1), (1, zi_iload 2), (1, zi_aload 1), (3, zi_getR 5 1), (1, zi_iload 2), (1, zi_iald), (1, zi_iast), (1, zi_aload 0), (3, zi_getR 2 2), (1, zi_iload 2), (1, zi_aload 1), (3, zi_getR 5 2), (1, zi_iload 2), (1, zi_iald), (1, zi_iast), (1, zi_aload 0), (3, zi_getR 2 3), (1, zi_iload 2), (1, zi_aload 1), (3, zi_getR 5 3), (1, zi_iload 2), (1, zi_iald), (1, zi_iast), (1, zi_aload 0), (3, zi_getR 2 4), (1, zi_iload 2), (1, zi_aload 1), (3, zi_getR 5 4), (1, zi_iload 2), (1, zi_iald), (1, zi_iast), (3, zi_iinc 2 1), (3, zi_jump 3)],
  [(1, zi_push (.int 0)), (1, zi_istore 2), (0, zi_jump 5)],
  [(1, zi_iload 2), (1, zi_push (.int 3)), (3, zi_cge 6), (1, zi_aload 0), (3, zi_getR 2 8), (1, zi_iload 2), (1, zi_push (.int (-1))), (1, zi_iast), (3, zi_iinc 2 1), (3, zi_jump 5)],
  [(1, zi_aload 0), (1, zi_push (.int 0)), (3, zi_callV 2 57 2 7)],
  [(1, zi_vret)]]
def pc_30 : List Nat := [0, 18, 42, 44, 104, 106, 124, 129]
set_option maxRecDepth 20000 in
theorem sa_30 : zz_SA zz_mt RX2 yX2_furnish cX2_furnish none 3 pc_30 pc_30 tb_30 := ⟨⟨⟨zs_aload_n (k := 0) rfl (by decide +kernel), zg_aload _⟩, ⟨zs_aload_n (k := 1) rfl (by decide +kernel), zg_aload _⟩, ⟨zs_getIN (ci := 5) (k := 5) (C := RX5) (T := TX5) (N := 8) rfl (by decide) (Or.inl rfl) wn_122 (by decide +kernel), zg_getI _ _⟩, ⟨zs_putI (ci := 2) (k := 9) (C := RX2) (T := TX2) (N := 14) rfl (by decide) rfl rfl wd_160 (by decide +kernel), zg_putI _ _⟩, ⟨zs_aload_n (k := 0) rfl (by decide +kernel), zg_aload _⟩, ⟨zs_aload_n (k := 1) rfl (by decide +kernel), zg_aload _⟩, ⟨zs_getIN (ci := 5) (k := 6) (C := RX5) (T := TX5) (N := 8) rfl (by decide) (Or.inl rfl) wn_124 (by decide +kernel), zg_getI _ _⟩, ⟨zs_putI (ci := 2) (k := 10) (C := RX2) (T := TX2) (N := 14) rfl (by decide) rfl rfl wd_163 (by decide +kernel), zg_putI _ _⟩, ⟨zs_iconst (n := 0) (by decide +kernel) (by decide), zg_push _⟩, ⟨zs_istore_n (k := 2) rfl (by decide +kernel), zg_istore _⟩, ⟨zs_jump rfl, zg_jump _⟩, trivial⟩,
  ⟨⟨zs_iload_n (k := 2) rfl (by decide +kernel), zg_iload _⟩, ⟨zs_bipush (n := 7) (by decide +kernel) (by decide), zg_push _⟩, ⟨zs_cge (off := 21) (q := 42) (by decide +kernel) rfl (by decide), zg_cge _⟩, ⟨zs_aload_n (k := 0) rfl (by decide +kernel), zg_aload _⟩, ⟨zs_getR (ci := 2) (k := 0) (C := RX2) (T := TX2) (N := 14) rfl (by decide) rfl wd_151 (by decide +kernel), zg_getR _ _⟩, ⟨zs_iload_n (k := 2) rfl (by decide +kernel), zg_iload _⟩, ⟨zs_aload_n (k := 1) rfl (by decide +kernel), zg_aload _⟩, ⟨zs_getRN (ci := 5) (k := 0) (C := RX5) (T := TX5) (N := 8) rfl (by decide) rfl wn_113 (by decide +kernel), zg_getR _ _⟩, ⟨zs_iload_n (k := 2) rfl (by decide +kernel), zg_iload _⟩, ⟨zs_iald (by decide +kernel), zg_iald⟩, ⟨zs_iast (by decide +kernel), zg_iast⟩, ⟨zs_iinc (n := 1) (by decide +kernel) (by decide), zg_iinc _ _⟩, ⟨zs_goto (off := (-21)) (q := 18) (by decide +kernel) rfl (by decide), zg_jump _⟩, trivial⟩,
  ⟨⟨zs_iconst (n := 0) (by decide +kernel) (by decide), zg_push _⟩, ⟨zs_istore_n (k := 2) rfl (by decide +kernel), zg_istore _⟩, ⟨zs_jump rfl, zg_jump _⟩, trivial⟩,
  ⟨⟨zs_iload_n (k := 2) rfl (by decide +kernel), zg_iload _⟩, ⟨zs_bipush (n := 6) (by decide +kernel) (by decide), zg_push _⟩, ⟨zs_cge (off := 57) (q := 104) (by decide +kernel) rfl (by decide), zg_cge _⟩, ⟨zs_aload_n (k := 0) rfl (by decide +kernel), zg_aload _⟩, ⟨zs_getR (ci := 2) (k := 1) (C := RX2) (T := TX2) (N := 14) rfl (by decide) rfl wd_152 (by decide +kernel), zg_getR _ _⟩, ⟨zs_iload_n (k := 2) rfl (by decide +kernel), zg_iload _⟩, ⟨zs_aload_n (k := 1) rfl (by decide +kernel), zg_aload _⟩, ⟨zs_getRN (ci := 5) (k := 1) (C := RX5) (T := TX5) (N := 8) rfl (by decide) rfl wn_115 (by decide +kernel), zg_getR _ _⟩, ⟨zs_iload_n (k := 2) rfl (by decide +kernel), zg_iload _⟩, ⟨zs_iald (by decide +kernel), zg_iald⟩, ⟨zs_iast (by decide +kernel), zg_iast⟩, ⟨zs_aload_n (k := 0) rfl (by decide +kernel), zg_aload _⟩, ⟨zs_getR (ci := 2) (k := 2) (C := RX2) (T := TX2) (N := 14) rfl (by decide) rfl wd_153 (by decide +kernel), zg_getR _ _⟩, ⟨zs_iload_n (k := 2) rfl (by decide +kernel), zg_iload _⟩, ⟨zs_aload_n (k := 1) rfl (by decide +kernel), zg_aload _⟩, ⟨zs_getRN (ci := 5) (k := 2) (C := RX5) (T := TX5) (N := 8) rfl (by decide) rfl wn_117 (by decide +kernel), zg_getR _ _⟩, ⟨zs_iload_n (k := 2) rfl (by decide +kernel), zg_iload _⟩, ⟨zs_iald (by decide +kernel), zg_iald⟩, ⟨zs_iast (by decide +kernel), zg_iast⟩, ⟨zs_aload_n (k := 0) rfl (by decide +kernel), zg_aload _⟩, ⟨zs_getR (ci := 2) (k := 3) (C := RX2) (T := TX2) (N := 14) rfl (by decide) rfl wd_154 (by decide +kernel), zg_getR _ _⟩, ⟨zs_iload_n (k := 2) rfl (by decide +kernel), zg_iload _⟩, ⟨zs_aload_n (k := 1) rfl (by decide +kernel), zg_aload _⟩, ⟨zs_getRN (ci := 5) (k := 3) (C := RX5) (T := TX5) (N := 8) rfl (by decide) rfl wn_119 (by decide +kernel), zg_getR _ _⟩, ⟨zs_iload_n (k := 2) rfl (by decide +kernel), zg_iload _⟩, ⟨zs_iald (by decide +kernel), zg_iald⟩, ⟨zs_iast (by decide +kernel), zg_iast⟩, ⟨zs_aload_n (k := 0) rfl (by decide +kernel), zg_aload _⟩, ⟨zs_getR (ci := 2) (k := 4) (C := RX2) (T := TX2) (N := 14) rfl (by decide) rfl wd_155 (by decide +kernel), zg_getR _ _⟩, ⟨zs_iload_n (k := 2) rfl (by decide +kernel), zg_iload _⟩, ⟨zs_aload_n (k := 1) rfl (by decide +kernel), zg_aload _⟩, ⟨zs_getRN (ci := 5) (k := 4) (C := RX5) (T := TX5) (N := 8) rfl (by decide) rfl wn_121 (by decide +kernel), zg_getR _ _⟩, ⟨zs_iload_n (k := 2) rfl (by decide +kernel), zg_iload _⟩, ⟨zs_iald (by decide +kernel), zg_iald⟩, ⟨zs_iast (by decide +kernel), zg_iast⟩, ⟨zs_iinc (n := 1) (by decide +kernel) (by decide), zg_iinc _ _⟩, ⟨zs_goto (off := (-57)) (q := 44) (by decide +kernel) rfl (by decide), zg_jump _⟩, trivial⟩,
  ⟨⟨zs_iconst (n := 0) (by decide +kernel) (by decide), zg_push _⟩, ⟨zs_istore_n (k := 2) rfl (by decide +kernel), zg_istore _⟩, ⟨zs_jump rfl, zg_jump _⟩, trivial⟩,
  ⟨⟨zs_iload_n (k := 2) rfl (by decide +kernel), zg_iload _⟩, ⟨zs_iconst (n := 3) (by decide +kernel) (by decide), zg_push _⟩, ⟨zs_cge (off := 16) (q := 124) (by decide +kernel) rfl (by decide), zg_cge _⟩, ⟨zs_aload_n (k := 0) rfl (by decide +kernel), zg_aload _⟩, ⟨zs_getR (ci := 2) (k := 8) (C := RX2) (T := TX2) (N := 14) rfl (by decide) rfl wd_159 (by decide +kernel), zg_getR _ _⟩, ⟨zs_iload_n (k := 2) rfl (by decide +kernel), zg_iload _⟩, ⟨zs_iconst (n := (-1)) (by decide +kernel) (by decide), zg_push _⟩, ⟨zs_iast (by decide +kernel), zg_iast⟩, ⟨zs_iinc (n := 1) (by decide +kernel) (by decide), zg_iinc _ _⟩, ⟨zs_goto (off := (-15)) (q := 106) (by decide +kernel) rfl (by decide), zg_jump _⟩, trivial⟩,
  ⟨⟨zs_aload_n (k := 0) rfl (by decide +kernel), zg_aload _⟩, ⟨zs_iconst (n := 0) (by decide +kernel) (by decide), zg_push _⟩, ⟨zs_callV (ci := 2) (C := RX2) (T := TX2) (N := 14) (n := 1) rfl mk_57 rfl ⟨rfl, rfl⟩ ck_57 wd_452 wd_453 wd_454 rfl (by decide +kernel), zg_callV _ _ _ _⟩, trivial⟩,
  ⟨⟨zs_vret (by decide +kernel) rfl, zg_vret⟩, trivial⟩, trivial⟩
-- NeverTogether$House.isPiece(I)Z
def tb_31 : List zz_B := [[(1, zi_iload 1), (3, zi_zlt 1), (1, zi_iload 1), (1, zi_aload 0), (3, zi_getI 2 10), (3, zi_cge 1), (1, zi_iload 1), (2, zi_push (.int 6)), (3, zi_cge 1), (1, zi_push (.int 1)), (3, zi_jump 2)],
  [(1, zi_push (.int 0)), (0, zi_jump 2)],
  [(1, zi_zret)]]
def pc_31 : List Nat := [0, 22, 23]
set_option maxRecDepth 20000 in
theorem sa_31 : zz_SA zz_mt RX2 yX2_isPiece cX2_isPiece (some .boolean) 2 pc_31 pc_31 tb_31 := ⟨⟨⟨zs_iload_n (k := 1) rfl (by decide +kernel), zg_iload _⟩, ⟨zs_zlt (off := 21) (q := 22) (by decide +kernel) rfl (by decide), zg_zlt _⟩, ⟨zs_iload_n (k := 1) rfl (by decide +kernel), zg_iload _⟩, ⟨zs_aload_n (k := 0) rfl (by decide +kernel), zg_aload _⟩, ⟨zs_getI (ci := 2) (k := 10) (C := RX2) (T := TX2) (N := 14) rfl (by decide) (Or.inl rfl) wd_163 (by decide +kernel), zg_getI _ _⟩, ⟨zs_cge (off := 13) (q := 22) (by decide +kernel) rfl (by decide), zg_cge _⟩, ⟨zs_iload_n (k := 1) rfl (by decide +kernel), zg_iload _⟩, ⟨zs_bipush (n := 6) (by decide +kernel) (by decide), zg_push _⟩, ⟨zs_cge (off := 7) (q := 22) (by decide +kernel) rfl (by decide), zg_cge _⟩, ⟨zs_iconst (n := 1) (by decide +kernel) (by decide), zg_push _⟩, ⟨zs_goto (off := 4) (q := 23) (by decide +kernel) rfl (by decide), zg_jump _⟩, trivial⟩,
  ⟨⟨zs_iconst (n := 0) (by decide +kernel) (by decide), zg_push _⟩, ⟨zs_jump rfl, zg_jump _⟩, trivial⟩,
  ⟨⟨zs_zret (by decide +kernel) rfl, zg_zret⟩, trivial⟩, trivial⟩
-- NeverTogether$House.isPair(II)Z
def tb_32 : List zz_B := [[(1, zi_aload 0), (1, zi_iload 1), (3, zi_callV 2 31 2 1)],
  [(3, zi_zeq 3), (1, zi_aload 0), (1, zi_iload 2), (3, zi_callV 2 31 2 2)],
  [(3, zi_zeq 3), (1, zi_iload 1), (1, zi_iload 2), (3, zi_ceq 3), (1, zi_push (.int 1)), (3, zi_jump 4)],
  [(1, zi_push (.int 0)), (0, zi_jump 4)],
  [(1, zi_zret)]]
def pc_32 : List Nat := [0, 5, 13, 25, 26]
set_option maxRecDepth 20000 in
theorem sa_32 : zz_SA zz_mt RX2 yX2_isPair cX2_isPair (some .boolean) 3 pc_32 pc_32 tb_32 := ⟨⟨⟨zs_aload_n (k := 0) rfl (by decide +kernel), zg_aload _⟩, ⟨zs_iload_n (k := 1) rfl (by decide +kernel), zg_iload _⟩, ⟨zs_callV (ci := 2) (C := RX2) (T := TX2) (N := 14) (n := 1) rfl mk_31 rfl ⟨rfl, rfl⟩ ck_31 wd_476 wd_477 wd_478 rfl (by decide +kernel), zg_callV _ _ _ _⟩, trivial⟩,
  ⟨⟨zs_zeq (off := 20) (q := 25) (by decide +kernel) rfl (by decide), zg_zeq _⟩, ⟨zs_aload_n (k := 0) rfl (by decide +kernel), zg_aload _⟩, ⟨zs_iload_n (k := 2) rfl (by decide +kernel), zg_iload _⟩, ⟨zs_callV (ci := 2) (C := RX2) (T := TX2) (N := 14) (n := 1) rfl mk_31 rfl ⟨rfl, rfl⟩ ck_31 wd_476 wd_477 wd_478 rfl (by decide +kernel), zg_callV _ _ _ _⟩, trivial⟩,
  ⟨⟨zs_zeq (off := 12) (q := 25) (by decide +kernel) rfl (by decide), zg_zeq _⟩, ⟨zs_iload_n (k := 1) rfl (by decide +kernel), zg_iload _⟩, ⟨zs_iload_n (k := 2) rfl (by decide +kernel), zg_iload _⟩, ⟨zs_ceq (off := 7) (q := 25) (by decide +kernel) rfl (by decide), zg_ceq _⟩, ⟨zs_iconst (n := 1) (by decide +kernel) (by decide), zg_push _⟩, ⟨zs_goto (off := 4) (q := 26) (by decide +kernel) rfl (by decide), zg_jump _⟩, trivial⟩,
  ⟨⟨zs_iconst (n := 0) (by decide +kernel) (by decide), zg_push _⟩, ⟨zs_jump rfl, zg_jump _⟩, trivial⟩,
  ⟨⟨zs_zret (by decide +kernel) rfl, zg_zret⟩, trivial⟩, trivial⟩
-- NeverTogether$House.isOf(II)Z
def tb_33 : List zz_B := [[(1, zi_aload 0), (1, zi_iload 1), (3, zi_callV 2 31 2 1)],
  [(3, zi_zeq 4), (1, zi_aload 0), (3, zi_getR 2 1), (1, zi_iload 1), (1, zi_iald), (3, zi_callS 152 1 2)],
  [(3, zi_zeq 4), (1, zi_iload 2), (3, zi_callS 152 1 3)],
  [(3, zi_zeq 4), (3, zi_push (.ref 1003)), (1, zi_aload 0), (3, zi_getR 2 1), (1, zi_iload 1), (1, zi_iald), (1, zi_iald), (1, zi_iload 2), (1, zi_ibin (fun x y => x >>> (y &&& 31))), (1, zi_push (.int 1)), (1, zi_ibin (fun x y => x &&& y)), (1, zi_push (.int 1)), (3, zi_cne 4), (1, zi_push (.int 1)), (3, zi_jump 5)],
  [(1, zi_push (.int 0)), (0, zi_jump 5)],
  [(1, zi_zret)]]
def pc_33 : List Nat := [0, 5, 17, 24, 49, 50]
set_option maxRecDepth 20000 in
theorem sa_33 : zz_SA zz_mt RX2 yX2_isOf cX2_isOf (some .boolean) 3 pc_33 pc_33 tb_33 := ⟨⟨⟨zs_aload_n (k := 0) rfl (by decide +kernel), zg_aload _⟩, ⟨zs_iload_n (k := 1) rfl (by decide +kernel), zg_iload _⟩, ⟨zs_callV (ci := 2) (C := RX2) (T := TX2) (N := 14) (n := 1) rfl mk_31 rfl ⟨rfl, rfl⟩ ck_31 wd_476 wd_477 wd_478 rfl (by decide +kernel), zg_callV _ _ _ _⟩, trivial⟩,
  ⟨⟨zs_zeq (off := 44) (q := 49) (by decide +kernel) rfl (by decide), zg_zeq _⟩, ⟨zs_aload_n (k := 0) rfl (by decide +kernel), zg_aload _⟩, ⟨zs_getR (ci := 2) (k := 1) (C := RX2) (T := TX2) (N := 14) rfl (by decide) rfl wd_152 (by decide +kernel), zg_getR _ _⟩, ⟨zs_iload_n (k := 1) rfl (by decide +kernel), zg_iload _⟩, ⟨zs_iald (by decide +kernel), zg_iald⟩, ⟨zs_callSN (n := 1) mk_152 ⟨rfl, rfl⟩ ck_152 wn_513 wd_514 wd_69 rfl (by decide +kernel), zg_callS _ _ _⟩, trivial⟩,
  ⟨⟨zs_zeq (off := 32) (q := 49) (by decide +kernel) rfl (by decide), zg_zeq _⟩, ⟨zs_iload_n (k := 2) rfl (by decide +kernel), zg_iload _⟩, ⟨zs_callSN (n := 1) mk_152 ⟨rfl, rfl⟩ ck_152 wn_513 wd_514 wd_69 rfl (by decide +kernel), zg_callS _ _ _⟩, trivial⟩,
  ⟨⟨zs_zeq (off := 25) (q := 49) (by decide +kernel) rfl (by decide), zg_zeq _⟩, ⟨zs_getsN (j := 3) (by decide) wn_530 (by decide +kernel), zg_push _⟩, ⟨zs_aload_n (k := 0) rfl (by decide +kernel), zg_aload _⟩, ⟨zs_getR (ci := 2) (k := 1) (C := RX2) (T := TX2) (N := 14) rfl (by decide) rfl wd_152 (by decide +kernel), zg_getR _ _⟩, ⟨zs_iload_n (k := 1) rfl (by decide +kernel), zg_iload _⟩, ⟨zs_iald (by decide +kernel), zg_iald⟩, ⟨zs_iald (by decide +kernel), zg_iald⟩, ⟨zs_iload_n (k := 2) rfl (by decide +kernel), zg_iload _⟩, ⟨zs_ishr (by decide +kernel), zg_ibin _⟩, ⟨zs_iconst (n := 1) (by decide +kernel) (by decide), zg_push _⟩, ⟨zs_iand (by decide +kernel), zg_ibin _⟩, ⟨zs_iconst (n := 1) (by decide +kernel) (by decide), zg_push _⟩, ⟨zs_cne (off := 7) (q := 49) (by decide +kernel) rfl (by decide), zg_cne _⟩, ⟨zs_iconst (n := 1) (by decide +kernel) (by decide), zg_push _⟩, ⟨zs_goto (off := 4) (q := 50) (by decide +kernel) rfl (by decide), zg_jump _⟩, trivial⟩,
  ⟨⟨zs_iconst (n := 0) (by decide +kernel) (by decide), zg_push _⟩, ⟨zs_jump rfl, zg_jump _⟩, trivial⟩,
  ⟨⟨zs_zret (by decide +kernel) rfl, zg_zret⟩, trivial⟩, trivial⟩
-- NeverTogether$House.kindOf(I)I
def tb_34 : List zz_B := [[(1, zi_aload 0), (1, zi_iload 1), (3, zi_callV 2 31 2 1)],
  [(3, zi_zeq 2), (1, zi_aload 0), (3, zi_getR 2 1), (1, zi_iload 1), (1, zi_iald), (3, zi_jump 3)],
  [(1, zi_push (.int 0)), (0, zi_jump 3)],
  [(1, zi_iret)]]
def pc_34 : List Nat := [0, 5, 17, 18]
set_option maxRecDepth 20000 in
theorem sa_34 : zz_SA zz_mt RX2 yX2_kindOf cX2_kindOf (some .int) 2 pc_34 pc_34 tb_34 := ⟨⟨⟨zs_aload_n (k := 0) rfl (by decide +kernel), zg_aload _⟩, ⟨zs_iload_n (k := 1) rfl (by decide +kernel), zg_iload _⟩, ⟨zs_callV (ci := 2) (C := RX2) (T := TX2) (N := 14) (n := 1) rfl mk_31 rfl ⟨rfl, rfl⟩ ck_31 wd_476 wd_477 wd_478 rfl (by decide +kernel), zg_callV _ _ _ _⟩, trivial⟩,
  ⟨⟨zs_zeq (off := 12) (q := 17) (by decide +kernel) rfl (by decide), zg_zeq _⟩, ⟨zs_aload_n (k := 0) rfl (by decide +kernel), zg_aload _⟩, ⟨zs_getR (ci := 2) (k := 1) (C := RX2) (T := TX2) (N := 14) rfl (by decide) rfl wd_152 (by decide +kernel), zg_getR _ _⟩, ⟨zs_iload_n (k := 1) rfl (by decide +kernel), zg_iload _⟩, ⟨zs_iald (by decide +kernel), zg_iald⟩, ⟨zs_goto (off := 4) (q := 18) (by decide +kernel) rfl (by decide), zg_jump _⟩, trivial⟩,
  ⟨⟨zs_iconst (n := 0) (by decide +kernel) (by decide), zg_push _⟩, ⟨zs_jump rfl, zg_jump _⟩, trivial⟩,
  ⟨⟨zs_iret (by decide +kernel) rfl, zg_iret⟩, trivial⟩, trivial⟩
-- NeverTogether$House.rateOf(I)I
def tb_35 : List zz_B := [[(1, zi_aload 0), (1, zi_iload 1), (3, zi_callV 2 31 2 1)],
  [(3, zi_zeq 2), (1, zi_aload 0), (3, zi_getR 2 3), (1, zi_iload 1), (1, zi_iald), (3, zi_jump 3)],
  [(1, zi_push (.int 0)), (0, zi_jump 3)],
  [(1, zi_iret)]]
def pc_35 : List Nat := [0, 5, 17, 18]
set_option maxRecDepth 20000 in
theorem sa_35 : zz_SA zz_mt RX2 yX2_rateOf cX2_rateOf (some .int) 2 pc_35 pc_35 tb_35 := ⟨⟨⟨zs_aload_n (k := 0) rfl (by decide +kernel), zg_aload _⟩, ⟨zs_iload_n (k := 1) rfl (by decide +kernel), zg_iload _⟩, ⟨zs_callV (ci := 2) (C := RX2) (T := TX2) (N := 14) (n := 1) rfl mk_31 rfl ⟨rfl, rfl⟩ ck_31 wd_476 wd_477 wd_478 rfl (by decide +kernel), zg_callV _ _ _ _⟩, trivial⟩,
  ⟨⟨zs_zeq (off := 12) (q := 17) (by decide +kernel) rfl (by decide), zg_zeq _⟩, ⟨zs_aload_n (k := 0) rfl (by decide +kernel), zg_aload _⟩, ⟨zs_getR (ci := 2) (k := 3) (C := RX2) (T := TX2) (N := 14) rfl (by decide) rfl wd_154 (by decide +kernel), zg_getR _ _⟩, ⟨zs_iload_n (k := 1) rfl (by decide +kernel), zg_iload _⟩, ⟨zs_iald (by decide +kernel), zg_iald⟩, ⟨zs_goto (off := 4) (q := 18) (by decide +kernel) rfl (by decide), zg_jump _⟩, trivial⟩,
  ⟨⟨zs_iconst (n := 0) (by decide +kernel) (by decide), zg_push _⟩, ⟨zs_jump rfl, zg_jump _⟩, trivial⟩,
  ⟨⟨zs_iret (by decide +kernel) rfl, zg_iret⟩, trivial⟩, trivial⟩
-- NeverTogether$House.floorOf(I)I
def tb_36 : List zz_B := [[(1, zi_aload 0), (1, zi_iload 1), (3, zi_callV 2 31 2 1)],
  [(3, zi_zeq 2), (1, zi_aload 0), (3, zi_getR 2 4), (1, zi_iload 1), (1, zi_iald), (3, zi_jump 3)],
  [(1, zi_push (.int 0)), (0, zi_jump 3)],
  [(1, zi_iret)]]
def pc_36 : List Nat := [0, 5, 17, 18]
set_option maxRecDepth 20000 in
theorem sa_36 : zz_SA zz_mt RX2 yX2_floorOf cX2_floorOf (some .int) 2 pc_36 pc_36 tb_36 := ⟨⟨⟨zs_aload_n (k := 0) rfl (by decide +kernel), zg_aload _⟩, ⟨zs_iload_n (k := 1) rfl (by decide +kernel), zg_iload _⟩, ⟨zs_callV (ci := 2) (C := RX2) (T := TX2) (N := 14) (n := 1) rfl mk_31 rfl ⟨rfl, rfl⟩ ck_31 wd_476 wd_477 wd_478 rfl (by decide +kernel), zg_callV _ _ _ _⟩, trivial⟩,
  ⟨⟨zs_zeq (off := 12) (q := 17) (by decide +kernel) rfl (by decide), zg_zeq _⟩, ⟨zs_aload_n (k := 0) rfl (by decide +kernel), zg_aload _⟩, ⟨zs_getR (ci := 2) (k := 4) (C := RX2) (T := TX2) (N := 14) rfl (by decide) rfl wd_155 (by decide +kernel), zg_getR _ _⟩, ⟨zs_iload_n (k := 1) rfl (by decide +kernel), zg_iload _⟩, ⟨zs_iald (by decide +kernel), zg_iald⟩, ⟨zs_goto (off := 4) (q := 18) (by decide +kernel) rfl (by decide), zg_jump _⟩, trivial⟩,
  ⟨⟨zs_iconst (n := 0) (by decide +kernel) (by decide), zg_push _⟩, ⟨zs_jump rfl, zg_jump _⟩, trivial⟩,
  ⟨⟨zs_iret (by decide +kernel) rfl, zg_iret⟩, trivial⟩, trivial⟩
-- NeverTogether$House.strikesOf(I)I
def tb_37 : List zz_B := [[(1, zi_aload 0), (1, zi_iload 1), (3, zi_callV 2 31 2 1)],
  [(3, zi_zeq 3), (1, zi_aload 0), (3, zi_getR 2 1), (1, zi_iload 1), (1, zi_iald), (3, zi_callS 152 1 2)],
  [(3, zi_zeq 3), (3, zi_push (.ref 1001)), (1, zi_aload 0), (3, zi_getR 2 1), (1, zi_iload 1), (1, zi_iald), (1, zi_iald), (3, zi_jump 4)],
  [(1, zi_push (.int 0)), (0, zi_jump 4)],
  [(1, zi_iret)]]
def pc_37 : List Nat := [0, 5, 17, 33, 34]
set_option maxRecDepth 20000 in
theorem sa_37 : zz_SA zz_mt RX2 yX2_strikesOf cX2_strikesOf (some .int) 2 pc_37 pc_37 tb_37 := ⟨⟨⟨zs_aload_n (k := 0) rfl (by decide +kernel), zg_aload _⟩, ⟨zs_iload_n (k := 1) rfl (by decide +kernel), zg_iload _⟩, ⟨zs_callV (ci := 2) (C := RX2) (T := TX2) (N := 14) (n := 1) rfl mk_31 rfl ⟨rfl, rfl⟩ ck_31 wd_476 wd_477 wd_478 rfl (by decide +kernel), zg_callV _ _ _ _⟩, trivial⟩,
  ⟨⟨zs_zeq (off := 28) (q := 33) (by decide +kernel) rfl (by decide), zg_zeq _⟩, ⟨zs_aload_n (k := 0) rfl (by decide +kernel), zg_aload _⟩, ⟨zs_getR (ci := 2) (k := 1) (C := RX2) (T := TX2) (N := 14) rfl (by decide) rfl wd_152 (by decide +kernel), zg_getR _ _⟩, ⟨zs_iload_n (k := 1) rfl (by decide +kernel), zg_iload _⟩, ⟨zs_iald (by decide +kernel), zg_iald⟩, ⟨zs_callSN (n := 1) mk_152 ⟨rfl, rfl⟩ ck_152 wn_513 wd_514 wd_69 rfl (by decide +kernel), zg_callS _ _ _⟩, trivial⟩,
  ⟨⟨zs_zeq (off := 16) (q := 33) (by decide +kernel) rfl (by decide), zg_zeq _⟩, ⟨zs_getsN (j := 1) (by decide) wn_516 (by decide +kernel), zg_push _⟩, ⟨zs_aload_n (k := 0) rfl (by decide +kernel), zg_aload _⟩, ⟨zs_getR (ci := 2) (k := 1) (C := RX2) (T := TX2) (N := 14) rfl (by decide) rfl wd_152 (by decide +kernel), zg_getR _ _⟩, ⟨zs_iload_n (k := 1) rfl (by decide +kernel), zg_iload _⟩, ⟨zs_iald (by decide +kernel), zg_iald⟩, ⟨zs_iald (by decide +kernel), zg_iald⟩, ⟨zs_goto (off := 4) (q := 34) (by decide +kernel) rfl (by decide), zg_jump _⟩, trivial⟩,
  ⟨⟨zs_iconst (n := 0) (by decide +kernel) (by decide), zg_push _⟩, ⟨zs_jump rfl, zg_jump _⟩, trivial⟩,
  ⟨⟨zs_iret (by decide +kernel) rfl, zg_iret⟩, trivial⟩, trivial⟩
-- NeverTogether$House.wasTouched(I)Z
def tb_38 : List zz_B := [[(1, zi_aload 0), (1, zi_iload 1), (3, zi_callV 2 31 2 1)],
  [(3, zi_zeq 2), (1, zi_aload 0), (3, zi_getI 2 12), (1, zi_iload 1), (1, zi_ibin (fun x y => x >>> (y &&& 31))), (1, zi_push (.int 1)), (1, zi_ibin (fun x y => x &&& y)), (1, zi_push (.int 1)), (3, zi_cne 2), (1, zi_push (.int 1)), (3, zi_jump 3)],
  [(1, zi_push (.int 0)), (0, zi_jump 3)],
  [(1, zi_zret)]]
def pc_38 : List Nat := [0, 5, 24, 25]
set_option maxRecDepth 20000 in
theorem sa_38 : zz_SA zz_mt RX2 yX2_wasTouched cX2_wasTouched (some .boolean) 2 pc_38 pc_38 tb_38 := ⟨⟨⟨zs_aload_n (k := 0) rfl (by decide +kernel), zg_aload _⟩, ⟨zs_iload_n (k := 1) rfl (by decide +kernel), zg_iload _⟩, ⟨zs_callV (ci := 2) (C := RX2) (T := TX2) (N := 14) (n := 1) rfl mk_31 rfl ⟨rfl, rfl⟩ ck_31 wd_476 wd_477 wd_478 rfl (by decide +kernel), zg_callV _ _ _ _⟩, trivial⟩,
  ⟨⟨zs_zeq (off := 19) (q := 24) (by decide +kernel) rfl (by decide), zg_zeq _⟩, ⟨zs_aload_n (k := 0) rfl (by decide +kernel), zg_aload _⟩, ⟨zs_getI (ci := 2) (k := 12) (C := RX2) (T := TX2) (N := 14) rfl (by decide) (Or.inl rfl) wd_167 (by decide +kernel), zg_getI _ _⟩, ⟨zs_iload_n (k := 1) rfl (by decide +kernel), zg_iload _⟩, ⟨zs_ishr (by decide +kernel), zg_ibin _⟩, ⟨zs_iconst (n := 1) (by decide +kernel) (by decide), zg_push _⟩, ⟨zs_iand (by decide +kernel), zg_ibin _⟩, ⟨zs_iconst (n := 1) (by decide +kernel) (by decide), zg_push _⟩, ⟨zs_cne (off := 7) (q := 24) (by decide +kernel) rfl (by decide), zg_cne _⟩, ⟨zs_iconst (n := 1) (by decide +kernel) (by decide), zg_push _⟩, ⟨zs_goto (off := 4) (q := 25) (by decide +kernel) rfl (by decide), zg_jump _⟩, trivial⟩,
  ⟨⟨zs_iconst (n := 0) (by decide +kernel) (by decide), zg_push _⟩, ⟨zs_jump rfl, zg_jump _⟩, trivial⟩,
  ⟨⟨zs_zret (by decide +kernel) rfl, zg_zret⟩, trivial⟩, trivial⟩
-- NeverTogether$House.partOf(II)I
def tb_39 : List zz_B := [[(1, zi_iload 2), (35, zi_tab 0 [1, 3, 5, 7, 9] 11)],
  [(1, zi_aload 0), (1, zi_iload 1), (3, zi_callV 2 34 2 2)],
  [(1, zi_iret)],
  [(1, zi_aload 0), (1, zi_iload 1), (1, zi_push (.int 0)), (1, zi_push (.int 0)), (3, zi_callV 2 44 4 4)],
  [(1, zi_iret)],
  [(1, zi_aload 0), (1, zi_iload 1), (3, zi_callV 2 35 2 6)],
  [(1, zi_iret)],
  [(1, zi_aload 0), (1, zi_iload 1), (3, zi_callV 2 36 2 8)],
  [(1, zi_iret)],
  [(1, zi_aload 0), (1, zi_iload 1), (3, zi_callV 2 37 2 10)],
  [(1, zi_iret)],
  [(1, zi_aload 0), (1, zi_iload 1), (3, zi_callV 2 38 2 12)],
  [(3, zi_zeq 13), (1, zi_push (.int 1)), (3, zi_jump 14)],
  [(1, zi_push (.int 0)), (0, zi_jump 14)],
  [(1, zi_iret)]]
def pc_39 : List Nat := [0, 36, 41, 42, 49, 50, 55, 56, 61, 62, 67, 68, 73, 80, 81]
set_option maxRecDepth 20000 in
theorem sa_39 : zz_SA zz_mt RX2 yX2_partOf cX2_partOf (some .int) 3 pc_39 pc_39 tb_39 := ⟨⟨⟨zs_iload_n (k := 2) rfl (by decide +kernel), zg_iload _⟩, ⟨zs_tab (dflt := 67) (lo := 0) (up := 4) (offs := #[35, 41, 49, 55, 61]) (len := 35) (q0 := 68) (by decide +kernel) rfl (by decide) (by decide) (zz_tabs_ok (by decide +kernel)), zg_tab _ _ _⟩, trivial⟩,
  ⟨⟨zs_aload_n (k := 0) rfl (by decide +kernel), zg_aload _⟩, ⟨zs_iload_n (k := 1) rfl (by decide +kernel), zg_iload _⟩, ⟨zs_callV (ci := 2) (C := RX2) (T := TX2) (N := 14) (n := 1) rfl mk_34 rfl ⟨rfl, rfl⟩ ck_34 wd_497 wd_498 wd_499 rfl (by decide +kernel), zg_callV _ _ _ _⟩, trivial⟩,
  ⟨⟨zs_iret (by decide +kernel) rfl, zg_iret⟩, trivial⟩,
  ⟨⟨zs_aload_n (k := 0) rfl (by decide +kernel), zg_aload _⟩, ⟨zs_iload_n (k := 1) rfl (by decide +kernel), zg_iload _⟩, ⟨zs_iconst (n := 0) (by decide +kernel) (by decide), zg_push _⟩, ⟨zs_iconst (n := 0) (by decide +kernel) (by decide), zg_push _⟩, ⟨zs_callV (ci := 2) (C := RX2) (T := TX2) (N := 14) (n := 3) rfl mk_44 rfl ⟨rfl, rfl⟩ ck_44 wd_472 wd_473 wd_474 rfl (by decide +kernel), zg_callV _ _ _ _⟩, trivial⟩,
  ⟨⟨zs_iret (by decide +kernel) rfl, zg_iret⟩, trivial⟩,
  ⟨⟨zs_aload_n (k := 0) rfl (by decide +kernel), zg_aload _⟩, ⟨zs_iload_n (k := 1) rfl (by decide +kernel), zg_iload _⟩, ⟨zs_callV (ci := 2) (C := RX2) (T := TX2) (N := 14) (n := 1) rfl mk_35 rfl ⟨rfl, rfl⟩ ck_35 wd_501 wd_502 wd_503 rfl (by decide +kernel), zg_callV _ _ _ _⟩, trivial⟩,
  ⟨⟨zs_iret (by decide +kernel) rfl, zg_iret⟩, trivial⟩,
  ⟨⟨zs_aload_n (k := 0) rfl (by decide +kernel), zg_aload _⟩, ⟨zs_iload_n (k := 1) rfl (by decide +kernel), zg_iload _⟩, ⟨zs_callV (ci := 2) (C := RX2) (T := TX2) (N := 14) (n := 1) rfl mk_36 rfl ⟨rfl, rfl⟩ ck_36 wd_505 wd_506 wd_507 rfl (by decide +kernel), zg_callV _ _ _ _⟩, trivial⟩,
  ⟨⟨zs_iret (by decide +kernel) rfl, zg_iret⟩, trivial⟩,
  ⟨⟨zs_aload_n (k := 0) rfl (by decide +kernel), zg_aload _⟩, ⟨zs_iload_n (k := 1) rfl (by decide +kernel), zg_iload _⟩, ⟨zs_callV (ci := 2) (C := RX2) (T := TX2) (N := 14) (n := 1) rfl mk_37 rfl ⟨rfl, rfl⟩ ck_37 wd_509 wd_510 wd_511 rfl (by decide +kernel), zg_callV _ _ _ _⟩, trivial⟩,
  ⟨⟨zs_iret (by decide +kernel) rfl, zg_iret⟩, trivial⟩,
  ⟨⟨zs_aload_n (k := 0) rfl (by decide +kernel), zg_aload _⟩, ⟨zs_iload_n (k := 1) rfl (by decide +kernel), zg_iload _⟩, ⟨zs_callV (ci := 2) (C := RX2) (T := TX2) (N := 14) (n := 1) rfl mk_38 rfl ⟨rfl, rfl⟩ ck_38 wd_518 wd_519 wd_520 rfl (by decide +kernel), zg_callV _ _ _ _⟩, trivial⟩,
  ⟨⟨zs_zeq (off := 7) (q := 80) (by decide +kernel) rfl (by decide), zg_zeq _⟩, ⟨zs_iconst (n := 1) (by decide +kernel) (by decide), zg_push _⟩, ⟨zs_goto (off := 4) (q := 81) (by decide +kernel) rfl (by decide), zg_jump _⟩, trivial⟩,
  ⟨⟨zs_iconst (n := 0) (by decide +kernel) (by decide), zg_push _⟩, ⟨zs_jump rfl, zg_jump _⟩, trivial⟩,
  ⟨⟨zs_iret (by decide +kernel) rfl, zg_iret⟩, trivial⟩, trivial⟩
-- NeverTogether$House.howManyAre(I)I
def tb_40 : List zz_B := [[(1, zi_push (.int 0)), (1, zi_istore 2), (1, zi_push (.int 0)), (1, zi_istore 3), (0, zi_jump 1)],
  [(1, zi_iload 3), (1, zi_aload 0), (3, zi_getI 2 10), (3, zi_cge 4), (1, zi_aload 0), (1, zi_iload 3), (1, zi_iload 1), (3, zi_callV 2 33 3 2)],
  [(3, zi_zeq 3), (3, zi_iinc 2 1), (0, zi_jump 3)],
  [(3, zi_iinc 3 1), (3, zi_jump 1)],
  [(1, zi_iload 2), (1, zi_iret)]]
def pc_40 : List Nat := [0, 4, 18, 24, 30]
set_option maxRecDepth 20000 in
theorem sa_40 : zz_SA zz_mt RX2 yX2_howManyAre cX2_howManyAre (some .int) 4 pc_40 pc_40 tb_40 := ⟨⟨⟨zs_iconst (n := 0) (by decide +kernel) (by decide), zg_push _⟩, ⟨zs_istore_n (k := 2) rfl (by decide +kernel), zg_istore _⟩, ⟨zs_iconst (n := 0) (by decide +kernel) (by decide), zg_push _⟩, ⟨zs_istore_n (k := 3) rfl (by decide +kernel), zg_istore _⟩, ⟨zs_jump rfl, zg_jump _⟩, trivial⟩,
  ⟨⟨zs_iload_n (k := 3) rfl (by decide +kernel), zg_iload _⟩, ⟨zs_aload_n (k := 0) rfl (by decide +kernel), zg_aload _⟩, ⟨zs_getI (ci := 2) (k := 10) (C := RX2) (T := TX2) (N := 14) rfl (by decide) (Or.inl rfl) wd_163 (by decide +kernel), zg_getI _ _⟩, ⟨zs_cge (off := 21) (q := 30) (by decide +kernel) rfl (by decide), zg_cge _⟩, ⟨zs_aload_n (k := 0) rfl (by decide +kernel), zg_aload _⟩, ⟨zs_iload_n (k := 3) rfl (by decide +kernel), zg_iload _⟩, ⟨zs_iload_n (k := 1) rfl (by decide +kernel), zg_iload _⟩, ⟨zs_callV (ci := 2) (C := RX2) (T := TX2) (N := 14) (n := 2) rfl mk_33 rfl ⟨rfl, rfl⟩ ck_33 wd_946 wd_527 wd_528 rfl (by decide +kernel), zg_callV _ _ _ _⟩, trivial⟩,
  ⟨⟨zs_zeq (off := 6) (q := 24) (by decide +kernel) rfl (by decide), zg_zeq _⟩, ⟨zs_iinc (n := 1) (by decide +kernel) (by decide), zg_iinc _ _⟩, ⟨zs_jump rfl, zg_jump _⟩, trivial⟩,
  ⟨⟨zs_iinc (n := 1) (by decide +kernel) (by decide), zg_iinc _ _⟩, ⟨zs_goto (off := (-23)) (q := 4) (by decide +kernel) rfl (by decide), zg_jump _⟩, trivial⟩,
  ⟨⟨zs_iload_n (k := 2) rfl (by decide +kernel), zg_iload _⟩, ⟨zs_iret (by decide +kernel) rfl, zg_iret⟩, trivial⟩, trivial⟩
-- NeverTogether$House.heatOf(I)I
def tb_41 : List zz_B := [[(1, zi_iload 1), (3, zi_zlt 1), (1, zi_aload 0), (3, zi_getI 2 9), (3, zi_zle 1), (1, zi_aload 0), (3, zi_getI 2 9), (2, zi_push (.int 7)), (3, zi_cle 2), (0, zi_jump 1)],
  [(1, zi_push (.int 0)), (1, zi_iret)],
  [(1, zi_aload 0), (3, zi_getR 2 0), (1, zi_iload 1), (1, zi_aload 0), (3, zi_getI 2 9), (1, zi_idiv (fun x y => x - x / y * y)), (1, zi_iald), (1, zi_iret)]]
def pc_41 : List Nat := [0, 20, 22]
set_option maxRecDepth 20000 in
theorem sa_41 : zz_SA zz_mt RX2 yX2_heatOf cX2_heatOf (some .int) 2 pc_41 pc_41 tb_41 := ⟨⟨⟨zs_iload_n (k := 1) rfl (by decide +kernel), zg_iload _⟩, ⟨zs_zlt (off := 19) (q := 20) (by decide +kernel) rfl (by decide), zg_zlt _⟩, ⟨zs_aload_n (k := 0) rfl (by decide +kernel), zg_aload _⟩, ⟨zs_getI (ci := 2) (k := 9) (C := RX2) (T := TX2) (N := 14) rfl (by decide) (Or.inl rfl) wd_160 (by decide +kernel), zg_getI _ _⟩, ⟨zs_zle (off := 12) (q := 20) (by decide +kernel) rfl (by decide), zg_zle _⟩, ⟨zs_aload_n (k := 0) rfl (by decide +kernel), zg_aload _⟩, ⟨zs_getI (ci := 2) (k := 9) (C := RX2) (T := TX2) (N := 14) rfl (by decide) (Or.inl rfl) wd_160 (by decide +kernel), zg_getI _ _⟩, ⟨zs_bipush (n := 7) (by decide +kernel) (by decide), zg_push _⟩, ⟨zs_cle (off := 5) (q := 22) (by decide +kernel) rfl (by decide), zg_cle _⟩, ⟨zs_jump rfl, zg_jump _⟩, trivial⟩,
  ⟨⟨zs_iconst (n := 0) (by decide +kernel) (by decide), zg_push _⟩, ⟨zs_iret (by decide +kernel) rfl, zg_iret⟩, trivial⟩,
  ⟨⟨zs_aload_n (k := 0) rfl (by decide +kernel), zg_aload _⟩, ⟨zs_getR (ci := 2) (k := 0) (C := RX2) (T := TX2) (N := 14) rfl (by decide) rfl wd_151 (by decide +kernel), zg_getR _ _⟩, ⟨zs_iload_n (k := 1) rfl (by decide +kernel), zg_iload _⟩, ⟨zs_aload_n (k := 0) rfl (by decide +kernel), zg_aload _⟩, ⟨zs_getI (ci := 2) (k := 9) (C := RX2) (T := TX2) (N := 14) rfl (by decide) (Or.inl rfl) wd_160 (by decide +kernel), zg_getI _ _⟩, ⟨zs_irem (by decide +kernel), zg_idiv _⟩, ⟨zs_iald (by decide +kernel), zg_iald⟩, ⟨zs_iret (by decide +kernel) rfl, zg_iret⟩, trivial⟩, trivial⟩
-- NeverTogether$House.heatAfter(I)I
def tb_42 : List zz_B := [[(1, zi_aload 0), (1, zi_aload 0), (3, zi_getI 2 11), (1, zi_iload 1), (1, zi_ibin (fun x y => x + y)), (3, zi_callV 2 41 2 1)],
  [(1, zi_iret)]]
def pc_42 : List Nat := [0, 10]
set_option maxRecDepth 20000 in
theorem sa_42 : zz_SA zz_mt RX2 yX2_heatAfter cX2_heatAfter (some .int) 2 pc_42 pc_42 tb_42 := ⟨⟨⟨zs_aload_n (k := 0) rfl (by decide +kernel), zg_aload _⟩, ⟨zs_aload_n (k := 0) rfl (by decide +kernel), zg_aload _⟩, ⟨zs_getI (ci := 2) (k := 11) (C := RX2) (T := TX2) (N := 14) rfl (by decide) (Or.inl rfl) wd_165 (by decide +kernel), zg_getI _ _⟩, ⟨zs_iload_n (k := 1) rfl (by decide +kernel), zg_iload _⟩, ⟨zs_iadd (by decide +kernel), zg_ibin _⟩, ⟨zs_callV (ci := 2) (C := RX2) (T := TX2) (N := 14) (n := 1) rfl mk_41 rfl ⟨rfl, rfl⟩ ck_41 wd_468 wd_469 wd_470 rfl (by decide +kernel), zg_callV _ _ _ _⟩, trivial⟩,
  ⟨⟨zs_iret (by decide +kernel) rfl, zg_iret⟩, trivial⟩, trivial⟩
-- NeverTogether$House.warmthOver(I)I
def tb_43 : List zz_B := [[(1, zi_aload 0), (3, zi_getI 2 9), (3, zi_zgt 1), (1, zi_push (.int 0)), (1, zi_iret)],
  [(1, zi_push (.int 0)), (1, zi_istore 2), (1, zi_push (.int 0)), (1, zi_istore 3), (1, zi_push (.int 0)), (2, zi_istore 4), (0, zi_jump 2)],
  [(2, zi_iload 4), (1, zi_aload 0), (3, zi_getI 2 9), (3, zi_cge 6), (1, zi_iload 2), (1, zi_aload 0), (2, zi_iload 4), (3, zi_callV 2 42 2 3)],
  [(1, zi_ibin (fun x y => x + y)), (1, zi_istore 2), (2, zi_iload 4), (1, zi_iload 1), (1, zi_aload 0), (3, zi_getI 2 9), (1, zi_idiv (fun x y => x - x / y * y)), (3, zi_cge 5), (1, zi_iload 3), (1, zi_aload 0), (2, zi_iload 4), (3, zi_callV 2 42 2 4)],
  [(1, zi_ibin (fun x y => x + y)), (1, zi_istore 3), (0, zi_jump 5)],
  [(3, zi_iinc 4 1), (3, zi_jump 2)],
  [(1, zi_iload 1), (1, zi_aload 0), (3, zi_getI 2 9), (1, zi_idiv (fun x y => x / y)), (1, zi_iload 2), (1, zi_ibin (fun x y => x * y)), (1, zi_iload 3), (1, zi_ibin (fun x y => x + y)), (1, zi_iret)]]
def pc_43 : List Nat := [0, 9, 16, 32, 52, 54, 60]
set_option maxRecDepth 20000 in
theorem sa_43 : zz_SA zz_mt RX2 yX2_warmthOver cX2_warmthOver (some .int) 5 pc_43 pc_43 tb_43 := ⟨⟨⟨zs_aload_n (k := 0) rfl (by decide +kernel), zg_aload _⟩, ⟨zs_getI (ci := 2) (k := 9) (C := RX2) (T := TX2) (N := 14) rfl (by decide) (Or.inl rfl) wd_160 (by decide +kernel), zg_getI _ _⟩, ⟨zs_zgt (off := 5) (q := 9) (by decide +kernel) rfl (by decide), zg_zgt _⟩, ⟨zs_iconst (n := 0) (by decide +kernel) (by decide), zg_push _⟩, ⟨zs_iret (by decide +kernel) rfl, zg_iret⟩, trivial⟩,
  ⟨⟨zs_iconst (n := 0) (by decide +kernel) (by decide), zg_push _⟩, ⟨zs_istore_n (k := 2) rfl (by decide +kernel), zg_istore _⟩, ⟨zs_iconst (n := 0) (by decide +kernel) (by decide), zg_push _⟩, ⟨zs_istore_n (k := 3) rfl (by decide +kernel), zg_istore _⟩, ⟨zs_iconst (n := 0) (by decide +kernel) (by decide), zg_push _⟩, ⟨zs_istore (by decide +kernel), zg_istore _⟩, ⟨zs_jump rfl, zg_jump _⟩, trivial⟩,
  ⟨⟨zs_iload (by decide +kernel), zg_iload _⟩, ⟨zs_aload_n (k := 0) rfl (by decide +kernel), zg_aload _⟩, ⟨zs_getI (ci := 2) (k := 9) (C := RX2) (T := TX2) (N := 14) rfl (by decide) (Or.inl rfl) wd_160 (by decide +kernel), zg_getI _ _⟩, ⟨zs_cge (off := 38) (q := 60) (by decide +kernel) rfl (by decide), zg_cge _⟩, ⟨zs_iload_n (k := 2) rfl (by decide +kernel), zg_iload _⟩, ⟨zs_aload_n (k := 0) rfl (by decide +kernel), zg_aload _⟩, ⟨zs_iload (by decide +kernel), zg_iload _⟩, ⟨zs_callV (ci := 2) (C := RX2) (T := TX2) (N := 14) (n := 1) rfl mk_42 rfl ⟨rfl, rfl⟩ ck_42 wd_464 wd_465 wd_466 rfl (by decide +kernel), zg_callV _ _ _ _⟩, trivial⟩,
  ⟨⟨zs_iadd (by decide +kernel), zg_ibin _⟩, ⟨zs_istore_n (k := 2) rfl (by decide +kernel), zg_istore _⟩, ⟨zs_iload (by decide +kernel), zg_iload _⟩, ⟨zs_iload_n (k := 1) rfl (by decide +kernel), zg_iload _⟩, ⟨zs_aload_n (k := 0) rfl (by decide +kernel), zg_aload _⟩, ⟨zs_getI (ci := 2) (k := 9) (C := RX2) (T := TX2) (N := 14) rfl (by decide) (Or.inl rfl) wd_160 (by decide +kernel), zg_getI _ _⟩, ⟨zs_irem (by decide +kernel), zg_idiv _⟩, ⟨zs_cge (off := 12) (q := 54) (by decide +kernel) rfl (by decide), zg_cge _⟩, ⟨zs_iload_n (k := 3) rfl (by decide +kernel), zg_iload _⟩, ⟨zs_aload_n (k := 0) rfl (by decide +kernel), zg_aload _⟩, ⟨zs_iload (by decide +kernel), zg_iload _⟩, ⟨zs_callV (ci := 2) (C := RX2) (T := TX2) (N := 14) (n := 1) rfl mk_42 rfl ⟨rfl, rfl⟩ ck_42 wd_464 wd_465 wd_466 rfl (by decide +kernel), zg_callV _ _ _ _⟩, trivial⟩,
  ⟨⟨zs_iadd (by decide +kernel), zg_ibin _⟩, ⟨zs_istore_n (k := 3) rfl (by decide +kernel), zg_istore _⟩, ⟨zs_jump rfl, zg_jump _⟩, trivial⟩,
  ⟨⟨zs_iinc (n := 1) (by decide +kernel) (by decide), zg_iinc _ _⟩, ⟨zs_goto (off := (-41)) (q := 16) (by decide +kernel) rfl (by decide), zg_jump _⟩, trivial⟩,
  ⟨⟨zs_iload_n (k := 1) rfl (by decide +kernel), zg_iload _⟩, ⟨zs_aload_n (k := 0) rfl (by decide +kernel), zg_aload _⟩, ⟨zs_getI (ci := 2) (k := 9) (C := RX2) (T := TX2) (N := 14) rfl (by decide) (Or.inl rfl) wd_160 (by decide +kernel), zg_getI _ _⟩, ⟨zs_idiv (by decide +kernel), zg_idiv _⟩, ⟨zs_iload_n (k := 2) rfl (by decide +kernel), zg_iload _⟩, ⟨zs_imul (by decide +kernel), zg_ibin _⟩, ⟨zs_iload_n (k := 3) rfl (by decide +kernel), zg_iload _⟩, ⟨zs_iadd (by decide +kernel), zg_ibin _⟩, ⟨zs_iret (by decide +kernel) rfl, zg_iret⟩, trivial⟩, trivial⟩
-- NeverTogether$House.minuteAfter(III)I
def tb_44 : List zz_B := [[(1, zi_aload 0), (1, zi_iload 1), (3, zi_callV 2 31 2 1)],
  [(3, zi_zne 2), (1, zi_push (.int 0)), (1, zi_iret)],
  [(1, zi_aload 0), (3, zi_getR 2 5), (1, zi_iload 1), (1, zi_iald), (1, zi_aload 0), (3, zi_getR 2 1), (1, zi_iload 1), (1, zi_iald), (1, zi_aload 0), (3, zi_getR 2 3), (1, zi_iload 1), (1, zi_iald), (1, zi_iload 2), (1, zi_iload 3), (3, zi_callS 156 4 3)],
  [(1, zi_ibin (fun x y => x + y)), (3, zi_callS 153 1 4)],
  [(1, zi_iret)]]
def pc_44 : List Nat := [0, 5, 10, 33, 37]
set_option maxRecDepth 20000 in
theorem sa_44 : zz_SA zz_mt RX2 yX2_minuteAfter cX2_minuteAfter (some .int) 4 pc_44 pc_44 tb_44 := ⟨⟨⟨zs_aload_n (k := 0) rfl (by decide +kernel), zg_aload _⟩, ⟨zs_iload_n (k := 1) rfl (by decide +kernel), zg_iload _⟩, ⟨zs_callV (ci := 2) (C := RX2) (T := TX2) (N := 14) (n := 1) rfl mk_31 rfl ⟨rfl, rfl⟩ ck_31 wd_476 wd_477 wd_478 rfl (by decide +kernel), zg_callV _ _ _ _⟩, trivial⟩,
  ⟨⟨zs_zne (off := 5) (q := 10) (by decide +kernel) rfl (by decide), zg_zne _⟩, ⟨zs_iconst (n := 0) (by decide +kernel) (by decide), zg_push _⟩, ⟨zs_iret (by decide +kernel) rfl, zg_iret⟩, trivial⟩,
  ⟨⟨zs_aload_n (k := 0) rfl (by decide +kernel), zg_aload _⟩, ⟨zs_getR (ci := 2) (k := 5) (C := RX2) (T := TX2) (N := 14) rfl (by decide) rfl wd_156 (by decide +kernel), zg_getR _ _⟩, ⟨zs_iload_n (k := 1) rfl (by decide +kernel), zg_iload _⟩, ⟨zs_iald (by decide +kernel), zg_iald⟩, ⟨zs_aload_n (k := 0) rfl (by decide +kernel), zg_aload _⟩, ⟨zs_getR (ci := 2) (k := 1) (C := RX2) (T := TX2) (N := 14) rfl (by decide) rfl wd_152 (by decide +kernel), zg_getR _ _⟩, ⟨zs_iload_n (k := 1) rfl (by decide +kernel), zg_iload _⟩, ⟨zs_iald (by decide +kernel), zg_iald⟩, ⟨zs_aload_n (k := 0) rfl (by decide +kernel), zg_aload _⟩, ⟨zs_getR (ci := 2) (k := 3) (C := RX2) (T := TX2) (N := 14) rfl (by decide) rfl wd_154 (by decide +kernel), zg_getR _ _⟩, ⟨zs_iload_n (k := 1) rfl (by decide +kernel), zg_iload _⟩, ⟨zs_iald (by decide +kernel), zg_iald⟩, ⟨zs_iload_n (k := 2) rfl (by decide +kernel), zg_iload _⟩, ⟨zs_iload_n (k := 3) rfl (by decide +kernel), zg_iload _⟩, ⟨zs_callSN (n := 4) mk_156 ⟨rfl, rfl⟩ ck_156 wn_480 wd_481 wd_69 rfl (by decide +kernel), zg_callS _ _ _⟩, trivial⟩,
  ⟨⟨zs_iadd (by decide +kernel), zg_ibin _⟩, ⟨zs_callSN (n := 1) mk_153 ⟨rfl, rfl⟩ ck_153 wn_485 wd_486 wd_69 rfl (by decide +kernel), zg_callS _ _ _⟩, trivial⟩,
  ⟨⟨zs_iret (by decide +kernel) rfl, zg_iret⟩, trivial⟩, trivial⟩
-- NeverTogether$House.strikingAfter(III)J
def tb_45 : List zz_B := [[(1, zi_aload 0), (1, zi_iload 1), (1, zi_iload 2), (1, zi_iload 3), (3, zi_callV 2 44 4 1)],
  [(1, zi_aload 0), (1, zi_iload 1), (3, zi_callV 2 37 2 2)],
  [(3, zi_callS 154 2 3)],
  [(1, zi_lret)]]
def pc_45 : List Nat := [0, 7, 12, 15]
set_option maxRecDepth 20000 in
theorem sa_45 : zz_SA zz_mt RX2 yX2_strikingAfter cX2_strikingAfter (some .long) 4 pc_45 pc_45 tb_45 := ⟨⟨⟨zs_aload_n (k := 0) rfl (by decide +kernel), zg_aload _⟩, ⟨zs_iload_n (k := 1) rfl (by decide +kernel), zg_iload _⟩, ⟨zs_iload_n (k := 2) rfl (by decide +kernel), zg_iload _⟩, ⟨zs_iload_n (k := 3) rfl (by decide +kernel), zg_iload _⟩, ⟨zs_callV (ci := 2) (C := RX2) (T := TX2) (N := 14) (n := 3) rfl mk_44 rfl ⟨rfl, rfl⟩ ck_44 wd_472 wd_473 wd_474 rfl (by decide +kernel), zg_callV _ _ _ _⟩, trivial⟩,
  ⟨⟨zs_aload_n (k := 0) rfl (by decide +kernel), zg_aload _⟩, ⟨zs_iload_n (k := 1) rfl (by decide +kernel), zg_iload _⟩, ⟨zs_callV (ci := 2) (C := RX2) (T := TX2) (N := 14) (n := 1) rfl mk_37 rfl ⟨rfl, rfl⟩ ck_37 wd_509 wd_510 wd_511 rfl (by decide +kernel), zg_callV _ _ _ _⟩, trivial⟩,
  ⟨⟨zs_callSN (n := 2) mk_154 ⟨rfl, rfl⟩ ck_154 wn_558 wd_559 wd_69 rfl (by decide +kernel), zg_callS _ _ _⟩, trivial⟩,
  ⟨⟨zs_lret (by decide +kernel) rfl, zg_lret⟩, trivial⟩, trivial⟩
-- NeverTogether$House.willMeet(IIII)Z
def tb_46 : List zz_B := [[(1, zi_aload 0), (1, zi_iload 1), (1, zi_iload 3), (2, zi_iload 4), (3, zi_callV 2 45 4 1)],
  [(1, zi_aload 0), (1, zi_iload 2), (1, zi_iload 3), (2, zi_iload 4), (3, zi_callV 2 45 4 2)],
  [(1, zi_lbin (fun x y => x &&& y)), (1, zi_push (.long 0)), (1, zi_lcmp), (3, zi_zeq 3), (1, zi_push (.int 1)), (3, zi_jump 4)],
  [(1, zi_push (.int 0)), (0, zi_jump 4)],
  [(1, zi_zret)]]
def pc_46 : List Nat := [0, 8, 16, 26, 27]
set_option maxRecDepth 20000 in
theorem sa_46 : zz_SA zz_mt RX2 yX2_willMeet cX2_willMeet (some .boolean) 5 pc_46 pc_46 tb_46 := ⟨⟨⟨zs_aload_n (k := 0) rfl (by decide +kernel), zg_aload _⟩, ⟨zs_iload_n (k := 1) rfl (by decide +kernel), zg_iload _⟩, ⟨zs_iload_n (k := 3) rfl (by decide +kernel), zg_iload _⟩, ⟨zs_iload (by decide +kernel), zg_iload _⟩, ⟨zs_callV (ci := 2) (C := RX2) (T := TX2) (N := 14) (n := 3) rfl mk_45 rfl ⟨rfl, rfl⟩ ck_45 wd_666 wd_555 wd_556 rfl (by decide +kernel), zg_callV _ _ _ _⟩, trivial⟩,
  ⟨⟨zs_aload_n (k := 0) rfl (by decide +kernel), zg_aload _⟩, ⟨zs_iload_n (k := 2) rfl (by decide +kernel), zg_iload _⟩, ⟨zs_iload_n (k := 3) rfl (by decide +kernel), zg_iload _⟩, ⟨zs_iload (by decide +kernel), zg_iload _⟩, ⟨zs_callV (ci := 2) (C := RX2) (T := TX2) (N := 14) (n := 3) rfl mk_45 rfl ⟨rfl, rfl⟩ ck_45 wd_666 wd_555 wd_556 rfl (by decide +kernel), zg_callV _ _ _ _⟩, trivial⟩,
  ⟨⟨zs_land (by decide +kernel), zg_lbin _⟩, ⟨zs_lconst (n := 0) (by decide +kernel) (by decide), zg_push _⟩, ⟨zs_lcmp (by decide +kernel), zg_lcmp⟩, ⟨zs_zeq (off := 7) (q := 26) (by decide +kernel) rfl (by decide), zg_zeq _⟩, ⟨zs_iconst (n := 1) (by decide +kernel) (by decide), zg_push _⟩, ⟨zs_goto (off := 4) (q := 27) (by decide +kernel) rfl (by decide), zg_jump _⟩, trivial⟩,
  ⟨⟨zs_iconst (n := 0) (by decide +kernel) (by decide), zg_push _⟩, ⟨zs_jump rfl, zg_jump _⟩, trivial⟩,
  ⟨⟨zs_zret (by decide +kernel) rfl, zg_zret⟩, trivial⟩, trivial⟩
-- NeverTogether$House.lastStrike(I)I
def tb_47 : List zz_B := [[(1, zi_aload 0), (1, zi_iload 1), (1, zi_push (.int 0)), (1, zi_push (.int 0)), (3, zi_callV 2 44 4 1)],
  [(1, zi_aload 0), (1, zi_iload 1), (3, zi_callV 2 37 2 2)],
  [(1, zi_ibin (fun x y => x + y)), (1, zi_push (.int 1)), (1, zi_ibin (fun x y => x - y)), (3, zi_callS 153 1 3)],
  [(1, zi_iret)]]
def pc_47 : List Nat := [0, 7, 12, 18]
set_option maxRecDepth 20000 in
theorem sa_47 : zz_SA zz_mt RX2 yX2_lastStrike cX2_lastStrike (some .int) 2 pc_47 pc_47 tb_47 := ⟨⟨⟨zs_aload_n (k := 0) rfl (by decide +kernel), zg_aload _⟩, ⟨zs_iload_n (k := 1) rfl (by decide +kernel), zg_iload _⟩, ⟨zs_iconst (n := 0) (by decide +kernel) (by decide), zg_push _⟩, ⟨zs_iconst (n := 0) (by decide +kernel) (by decide), zg_push _⟩, ⟨zs_callV (ci := 2) (C := RX2) (T := TX2) (N := 14) (n := 3) rfl mk_44 rfl ⟨rfl, rfl⟩ ck_44 wd_472 wd_473 wd_474 rfl (by decide +kernel), zg_callV _ _ _ _⟩, trivial⟩,
  ⟨⟨zs_aload_n (k := 0) rfl (by decide +kernel), zg_aload _⟩, ⟨zs_iload_n (k := 1) rfl (by decide +kernel), zg_iload _⟩, ⟨zs_callV (ci := 2) (C := RX2) (T := TX2) (N := 14) (n := 1) rfl mk_37 rfl ⟨rfl, rfl⟩ ck_37 wd_509 wd_510 wd_511 rfl (by decide +kernel), zg_callV _ _ _ _⟩, trivial⟩,
  ⟨⟨zs_iadd (by decide +kernel), zg_ibin _⟩, ⟨zs_iconst (n := 1) (by decide +kernel) (by decide), zg_push _⟩, ⟨zs_isub (by decide +kernel), zg_ibin _⟩, ⟨zs_callSN (n := 1) mk_153 ⟨rfl, rfl⟩ ck_153 wn_485 wd_486 wd_69 rfl (by decide +kernel), zg_callS _ _ _⟩, trivial⟩,
  ⟨⟨zs_iret (by decide +kernel) rfl, zg_iret⟩, trivial⟩, trivial⟩
-- NeverTogether$House.gainToday(I)I
def tb_48 : List zz_B := [[(1, zi_aload 0), (1, zi_iload 1), (3, zi_callV 2 34 2 1)],
  [(1, zi_aload 0), (1, zi_iload 1), (3, zi_callV 2 35 2 2)],
  [(1, zi_push (.int 1)), (1, zi_aload 0), (1, zi_push (.int 0)), (3, zi_callV 2 42 2 3)],
  [(3, zi_callS 156 4 4)],
  [(1, zi_iret)]]
def pc_48 : List Nat := [0, 5, 10, 16, 19]
set_option maxRecDepth 20000 in
theorem sa_48 : zz_SA zz_mt RX2 yX2_gainToday cX2_gainToday (some .int) 2 pc_48 pc_48 tb_48 := ⟨⟨⟨zs_aload_n (k := 0) rfl (by decide +kernel), zg_aload _⟩, ⟨zs_iload_n (k := 1) rfl (by decide +kernel), zg_iload _⟩, ⟨zs_callV (ci := 2) (C := RX2) (T := TX2) (N := 14) (n := 1) rfl mk_34 rfl ⟨rfl, rfl⟩ ck_34 wd_497 wd_498 wd_499 rfl (by decide +kernel), zg_callV _ _ _ _⟩, trivial⟩,
  ⟨⟨zs_aload_n (k := 0) rfl (by decide +kernel), zg_aload _⟩, ⟨zs_iload_n (k := 1) rfl (by decide +kernel), zg_iload _⟩, ⟨zs_callV (ci := 2) (C := RX2) (T := TX2) (N := 14) (n := 1) rfl mk_35 rfl ⟨rfl, rfl⟩ ck_35 wd_501 wd_502 wd_503 rfl (by decide +kernel), zg_callV _ _ _ _⟩, trivial⟩,
  ⟨⟨zs_iconst (n := 1) (by decide +kernel) (by decide), zg_push _⟩, ⟨zs_aload_n (k := 0) rfl (by decide +kernel), zg_aload _⟩, ⟨zs_iconst (n := 0) (by decide +kernel) (by decide), zg_push _⟩, ⟨zs_callV (ci := 2) (C := RX2) (T := TX2) (N := 14) (n := 1) rfl mk_42 rfl ⟨rfl, rfl⟩ ck_42 wd_464 wd_465 wd_466 rfl (by decide +kernel), zg_callV _ _ _ _⟩, trivial⟩,
  ⟨⟨zs_callSN (n := 4) mk_156 ⟨rfl, rfl⟩ ck_156 wn_480 wd_481 wd_69 rfl (by decide +kernel), zg_callS _ _ _⟩, trivial⟩,
  ⟨⟨zs_iret (by decide +kernel) rfl, zg_iret⟩, trivial⟩, trivial⟩
-- NeverTogether$House.idleDays(I)I
def tb_49 : List zz_B := [[(1, zi_push (.int 0)), (1, zi_istore 2), (1, zi_push (.int 0)), (1, zi_istore 3), (0, zi_jump 1)],
  [(1, zi_iload 3), (2, zi_push (.int 7)), (3, zi_cge 7), (1, zi_aload 0), (1, zi_iload 1), (3, zi_callV 2 34 2 2)],
  [(1, zi_aload 0), (1, zi_iload 1), (3, zi_callV 2 35 2 3)],
  [(1, zi_push (.int 1)), (1, zi_aload 0), (1, zi_iload 3), (3, zi_callV 2 42 2 4)],
  [(3, zi_callS 156 4 5)],
  [(3, zi_zne 6), (3, zi_iinc 2 1), (0, zi_jump 6)],
  [(3, zi_iinc 3 1), (3, zi_jump 1)],
  [(1, zi_iload 2), (1, zi_iret)]]
def pc_49 : List Nat := [0, 4, 15, 20, 26, 29, 35, 41]
set_option maxRecDepth 20000 in
theorem sa_49 : zz_SA zz_mt RX2 yX2_idleDays cX2_idleDays (some .int) 4 pc_49 pc_49 tb_49 := ⟨⟨⟨zs_iconst (n := 0) (by decide +kernel) (by decide), zg_push _⟩, ⟨zs_istore_n (k := 2) rfl (by decide +kernel), zg_istore _⟩, ⟨zs_iconst (n := 0) (by decide +kernel) (by decide), zg_push _⟩, ⟨zs_istore_n (k := 3) rfl (by decide +kernel), zg_istore _⟩, ⟨zs_jump rfl, zg_jump _⟩, trivial⟩,
  ⟨⟨zs_iload_n (k := 3) rfl (by decide +kernel), zg_iload _⟩, ⟨zs_bipush (n := 7) (by decide +kernel) (by decide), zg_push _⟩, ⟨zs_cge (off := 34) (q := 41) (by decide +kernel) rfl (by decide), zg_cge _⟩, ⟨zs_aload_n (k := 0) rfl (by decide +kernel), zg_aload _⟩, ⟨zs_iload_n (k := 1) rfl (by decide +kernel), zg_iload _⟩, ⟨zs_callV (ci := 2) (C := RX2) (T := TX2) (N := 14) (n := 1) rfl mk_34 rfl ⟨rfl, rfl⟩ ck_34 wd_497 wd_498 wd_499 rfl (by decide +kernel), zg_callV _ _ _ _⟩, trivial⟩,
  ⟨⟨zs_aload_n (k := 0) rfl (by decide +kernel), zg_aload _⟩, ⟨zs_iload_n (k := 1) rfl (by decide +kernel), zg_iload _⟩, ⟨zs_callV (ci := 2) (C := RX2) (T := TX2) (N := 14) (n := 1) rfl mk_35 rfl ⟨rfl, rfl⟩ ck_35 wd_501 wd_502 wd_503 rfl (by decide +kernel), zg_callV _ _ _ _⟩, trivial⟩,
  ⟨⟨zs_iconst (n := 1) (by decide +kernel) (by decide), zg_push _⟩, ⟨zs_aload_n (k := 0) rfl (by decide +kernel), zg_aload _⟩, ⟨zs_iload_n (k := 3) rfl (by decide +kernel), zg_iload _⟩, ⟨zs_callV (ci := 2) (C := RX2) (T := TX2) (N := 14) (n := 1) rfl mk_42 rfl ⟨rfl, rfl⟩ ck_42 wd_464 wd_465 wd_466 rfl (by decide +kernel), zg_callV _ _ _ _⟩, trivial⟩,
  ⟨⟨zs_callSN (n := 4) mk_156 ⟨rfl, rfl⟩ ck_156 wn_480 wd_481 wd_69 rfl (by decide +kernel), zg_callS _ _ _⟩, trivial⟩,
  ⟨⟨zs_zne (off := 6) (q := 35) (by decide +kernel) rfl (by decide), zg_zne _⟩, ⟨zs_iinc (n := 1) (by decide +kernel) (by decide), zg_iinc _ _⟩, ⟨zs_jump rfl, zg_jump _⟩, trivial⟩,
  ⟨⟨zs_iinc (n := 1) (by decide +kernel) (by decide), zg_iinc _ _⟩, ⟨zs_goto (off := (-34)) (q := 4) (by decide +kernel) rfl (by decide), zg_jump _⟩, trivial⟩,
  ⟨⟨zs_iload_n (k := 2) rfl (by decide +kernel), zg_iload _⟩, ⟨zs_iret (by decide +kernel) rfl, zg_iret⟩, trivial⟩, trivial⟩
-- NeverTogether$House.visitorsOf(I)I
def tb_50 : List zz_B := [[(1, zi_push (.int 0)), (1, zi_istore 2), (1, zi_push (.int 0)), (1, zi_istore 3), (1, zi_push (.int 0)), (2, zi_istore 4), (0, zi_jump 1)],
  [(2, zi_iload 4), (2, zi_push (.int 60)), (3, zi_cge 8), (1, zi_push (.int 0)), (2, zi_istore 5), (0, zi_jump 2)],
  [(2, zi_iload 5), (1, zi_aload 0), (3, zi_getI 2 10), (3, zi_cge 6), (2, zi_iload 5), (1, zi_iload 1), (3, zi_ceq 5), (1, zi_aload 0), (2, zi_iload 5), (2, zi_iload 4), (1, zi_iload 3), (3, zi_callV 2 44 4 3)],
  [(1, zi_aload 0), (1, zi_iload 1), (1, zi_push (.int 0)), (1, zi_push (.int 0)), (3, zi_callV 2 44 4 4)],
  [(3, zi_cne 5), (1, zi_iload 2), (1, zi_push (.int 1)), (2, zi_iload 5), (1, zi_ibin (fun x y => x <<< (y &&& 31))), (1, zi_ibin (fun x y => x ||| y)), (1, zi_istore 2), (0, zi_jump 5)],
  [(3, zi_iinc 5 1), (3, zi_jump 2)],
  [(1, zi_iload 3), (1, zi_aload 0), (2, zi_iload 4), (3, zi_callV 2 42 2 7)],
  [(1, zi_ibin (fun x y => x + y)), (1, zi_istore 3), (3, zi_iinc 4 1), (3, zi_jump 1)],
  [(1, zi_iload 2), (3, zi_callS 9 1 9)],
  [(1, zi_iret)]]
def pc_50 : List Nat := [0, 7, 17, 41, 48, 58, 64, 71, 79, 83]
set_option maxRecDepth 20000 in
theorem sa_50 : zz_SA zz_mt RX2 yX2_visitorsOf cX2_visitorsOf (some .int) 6 pc_50 pc_50 tb_50 := ⟨⟨⟨zs_iconst (n := 0) (by decide +kernel) (by decide), zg_push _⟩, ⟨zs_istore_n (k := 2) rfl (by decide +kernel), zg_istore _⟩, ⟨zs_iconst (n := 0) (by decide +kernel) (by decide), zg_push _⟩, ⟨zs_istore_n (k := 3) rfl (by decide +kernel), zg_istore _⟩, ⟨zs_iconst (n := 0) (by decide +kernel) (by decide), zg_push _⟩, ⟨zs_istore (by decide +kernel), zg_istore _⟩, ⟨zs_jump rfl, zg_jump _⟩, trivial⟩,
  ⟨⟨zs_iload (by decide +kernel), zg_iload _⟩, ⟨zs_bipush (n := 60) (by decide +kernel) (by decide), zg_push _⟩, ⟨zs_cge (off := 68) (q := 79) (by decide +kernel) rfl (by decide), zg_cge _⟩, ⟨zs_iconst (n := 0) (by decide +kernel) (by decide), zg_push _⟩, ⟨zs_istore (by decide +kernel), zg_istore _⟩, ⟨zs_jump rfl, zg_jump _⟩, trivial⟩,
  ⟨⟨zs_iload (by decide +kernel), zg_iload _⟩, ⟨zs_aload_n (k := 0) rfl (by decide +kernel), zg_aload _⟩, ⟨zs_getI (ci := 2) (k := 10) (C := RX2) (T := TX2) (N := 14) rfl (by decide) (Or.inl rfl) wd_163 (by decide +kernel), zg_getI _ _⟩, ⟨zs_cge (off := 41) (q := 64) (by decide +kernel) rfl (by decide), zg_cge _⟩, ⟨zs_iload (by decide +kernel), zg_iload _⟩, ⟨zs_iload_n (k := 1) rfl (by decide +kernel), zg_iload _⟩, ⟨zs_ceq (off := 29) (q := 58) (by decide +kernel) rfl (by decide), zg_ceq _⟩, ⟨zs_aload_n (k := 0) rfl (by decide +kernel), zg_aload _⟩, ⟨zs_iload (by decide +kernel), zg_iload _⟩, ⟨zs_iload (by decide +kernel), zg_iload _⟩, ⟨zs_iload_n (k := 3) rfl (by decide +kernel), zg_iload _⟩, ⟨zs_callV (ci := 2) (C := RX2) (T := TX2) (N := 14) (n := 3) rfl mk_44 rfl ⟨rfl, rfl⟩ ck_44 wd_472 wd_473 wd_474 rfl (by decide +kernel), zg_callV _ _ _ _⟩, trivial⟩,
  ⟨⟨zs_aload_n (k := 0) rfl (by decide +kernel), zg_aload _⟩, ⟨zs_iload_n (k := 1) rfl (by decide +kernel), zg_iload _⟩, ⟨zs_iconst (n := 0) (by decide +kernel) (by decide), zg_push _⟩, ⟨zs_iconst (n := 0) (by decide +kernel) (by decide), zg_push _⟩, ⟨zs_callV (ci := 2) (C := RX2) (T := TX2) (N := 14) (n := 3) rfl mk_44 rfl ⟨rfl, rfl⟩ ck_44 wd_472 wd_473 wd_474 rfl (by decide +kernel), zg_callV _ _ _ _⟩, trivial⟩,
  ⟨⟨zs_cne (off := 10) (q := 58) (by decide +kernel) rfl (by decide), zg_cne _⟩, ⟨zs_iload_n (k := 2) rfl (by decide +kernel), zg_iload _⟩, ⟨zs_iconst (n := 1) (by decide +kernel) (by decide), zg_push _⟩, ⟨zs_iload (by decide +kernel), zg_iload _⟩, ⟨zs_ishl (by decide +kernel), zg_ibin _⟩, ⟨zs_ior (by decide +kernel), zg_ibin _⟩, ⟨zs_istore_n (k := 2) rfl (by decide +kernel), zg_istore _⟩, ⟨zs_jump rfl, zg_jump _⟩, trivial⟩,
  ⟨⟨zs_iinc (n := 1) (by decide +kernel) (by decide), zg_iinc _ _⟩, ⟨zs_goto (off := (-44)) (q := 17) (by decide +kernel) rfl (by decide), zg_jump _⟩, trivial⟩,
  ⟨⟨zs_iload_n (k := 3) rfl (by decide +kernel), zg_iload _⟩, ⟨zs_aload_n (k := 0) rfl (by decide +kernel), zg_aload _⟩, ⟨zs_iload (by decide +kernel), zg_iload _⟩, ⟨zs_callV (ci := 2) (C := RX2) (T := TX2) (N := 14) (n := 1) rfl mk_42 rfl ⟨rfl, rfl⟩ ck_42 wd_464 wd_465 wd_466 rfl (by decide +kernel), zg_callV _ _ _ _⟩, trivial⟩,
  ⟨⟨zs_iadd (by decide +kernel), zg_ibin _⟩, ⟨zs_istore_n (k := 3) rfl (by decide +kernel), zg_istore _⟩, ⟨zs_iinc (n := 1) (by decide +kernel) (by decide), zg_iinc _ _⟩, ⟨zs_goto (off := (-69)) (q := 7) (by decide +kernel) rfl (by decide), zg_jump _⟩, trivial⟩,
  ⟨⟨zs_iload_n (k := 2) rfl (by decide +kernel), zg_iload _⟩, ⟨zs_callS (n := 1) mk_9 ⟨rfl, rfl⟩ ck_9 wd_544 wd_545 wd_79 rfl (by decide +kernel), zg_callS _ _ _⟩, trivial⟩,
  ⟨⟨zs_iret (by decide +kernel) rfl, zg_iret⟩, trivial⟩, trivial⟩
-- NeverTogether$House.hasPlaceForDeeds(I)Z
def tb_51 : List zz_B := [[(1, zi_aload 0), (3, zi_getI 2 13), (1, zi_iload 1), (1, zi_ibin (fun x y => x + y)), (2, zi_push (.int 40)), (3, zi_cgt 1), (1, zi_push (.int 1)), (3, zi_jump 2)],
  [(1, zi_push (.int 0)), (0, zi_jump 2)],
  [(1, zi_zret)]]
def pc_51 : List Nat := [0, 15, 16]
set_option maxRecDepth 20000 in
theorem sa_51 : zz_SA zz_mt RX2 yX2_hasPlaceForDeeds cX2_hasPlaceForDeeds (some .boolean) 2 pc_51 pc_51 tb_51 := ⟨⟨⟨zs_aload_n (k := 0) rfl (by decide +kernel), zg_aload _⟩, ⟨zs_getI (ci := 2) (k := 13) (C := RX2) (T := TX2) (N := 14) rfl (by decide) (Or.inl rfl) wd_169 (by decide +kernel), zg_getI _ _⟩, ⟨zs_iload_n (k := 1) rfl (by decide +kernel), zg_iload _⟩, ⟨zs_iadd (by decide +kernel), zg_ibin _⟩, ⟨zs_bipush (n := 40) (by decide +kernel) (by decide), zg_push _⟩, ⟨zs_cgt (off := 7) (q := 15) (by decide +kernel) rfl (by decide), zg_cgt _⟩, ⟨zs_iconst (n := 1) (by decide +kernel) (by decide), zg_push _⟩, ⟨zs_goto (off := 4) (q := 16) (by decide +kernel) rfl (by decide), zg_jump _⟩, trivial⟩,
  ⟨⟨zs_iconst (n := 0) (by decide +kernel) (by decide), zg_push _⟩, ⟨zs_jump rfl, zg_jump _⟩, trivial⟩,
  ⟨⟨zs_zret (by decide +kernel) rfl, zg_zret⟩, trivial⟩, trivial⟩
-- NeverTogether$House.passDay()V
def tb_52 : List zz_B := [[(1, zi_aload 0), (1, zi_push (.int 0)), (3, zi_callV 2 55 2 1)],
  [(1, zi_vret)]]
def pc_52 : List Nat := [0, 5]
set_option maxRecDepth 20000 in
theorem sa_52 : zz_SA zz_mt RX2 yX2_passDay cX2_passDay none 1 pc_52 pc_52 tb_52 := ⟨⟨⟨zs_aload_n (k := 0) rfl (by decide +kernel), zg_aload _⟩, ⟨zs_iconst (n := 0) (by decide +kernel) (by decide), zg_push _⟩, ⟨zs_callV (ci := 2) (C := RX2) (T := TX2) (N := 14) (n := 1) rfl mk_55 rfl ⟨rfl, rfl⟩ ck_55 wd_456 wd_458 wd_7 rfl (by decide +kernel), zg_callV _ _ _ _⟩, trivial⟩,
  ⟨⟨zs_vret (by decide +kernel) rfl, zg_vret⟩, trivial⟩, trivial⟩
-- NeverTogether$House.turn(II)V
def tb_53 : List zz_B := [[(1, zi_aload 0), (2, zi_push (.int 16)), (1, zi_iload 1), (1, zi_ibin (fun x y => x * y)), (1, zi_iload 2), (1, zi_ibin (fun x y => x + y)), (2, zi_push (.int 6)), (1, zi_ibin (fun x y => x + y)), (3, zi_callV 2 55 2 1)],
  [(1, zi_vret)]]
def pc_53 : List Nat := [0, 13]
set_option maxRecDepth 20000 in
theorem sa_53 : zz_SA zz_mt RX2 yX2_turn cX2_turn none 3 pc_53 pc_53 tb_53 := ⟨⟨⟨zs_aload_n (k := 0) rfl (by decide +kernel), zg_aload _⟩, ⟨zs_bipush (n := 16) (by decide +kernel) (by decide), zg_push _⟩, ⟨zs_iload_n (k := 1) rfl (by decide +kernel), zg_iload _⟩, ⟨zs_imul (by decide +kernel), zg_ibin _⟩, ⟨zs_iload_n (k := 2) rfl (by decide +kernel), zg_iload _⟩, ⟨zs_iadd (by decide +kernel), zg_ibin _⟩, ⟨zs_bipush (n := 6) (by decide +kernel) (by decide), zg_push _⟩, ⟨zs_iadd (by decide +kernel), zg_ibin _⟩, ⟨zs_callV (ci := 2) (C := RX2) (T := TX2) (N := 14) (n := 1) rfl mk_55 rfl ⟨rfl, rfl⟩ ck_55 wd_456 wd_458 wd_7 rfl (by decide +kernel), zg_callV _ _ _ _⟩, trivial⟩,
  ⟨⟨zs_vret (by decide +kernel) rfl, zg_vret⟩, trivial⟩, trivial⟩
-- NeverTogether$House.turnByLot(J)V
def tb_54 : List zz_B := [[(1, zi_aload 0), (3, zi_getI 2 10), (3, zi_zgt 1), (1, zi_vret)],
  [(1, zi_lload 1), (1, zi_aload 0), (3, zi_getI 2 10), (1, zi_i2l), (1, zi_ldiv (fun x y => x - x / y * y)), (1, zi_l2i), (1, zi_istore 3), (1, zi_aload 0), (1, zi_iload 3), (3, zi_callV 2 38 2 2)],
  [(3, zi_zne 3), (1, zi_lload 1), (3, zi_push (.long 8)), (1, zi_ldiv (fun x y => x / y)), (3, zi_push (.long 2)), (1, zi_ldiv (fun x y => x - x / y * y)), (1, zi_push (.long 0)), (1, zi_lcmp), (3, zi_zne 3), (1, zi_aload 0), (1, zi_iload 3), (1, zi_push (.int 1)), (3, zi_callV 2 53 3 3)],
  [(1, zi_vret)]]
def pc_54 : List Nat := [0, 8, 22, 45]
set_option maxRecDepth 20000 in
theorem sa_54 : zz_SA zz_mt RX2 yX2_turnByLot cX2_turnByLot none 4 pc_54 pc_54 tb_54 := ⟨⟨⟨zs_aload_n (k := 0) rfl (by decide +kernel), zg_aload _⟩, ⟨zs_getI (ci := 2) (k := 10) (C := RX2) (T := TX2) (N := 14) rfl (by decide) (Or.inl rfl) wd_163 (by decide +kernel), zg_getI _ _⟩, ⟨zs_zgt (off := 4) (q := 8) (by decide +kernel) rfl (by decide), zg_zgt _⟩, ⟨zs_vret (by decide +kernel) rfl, zg_vret⟩, trivial⟩,
  ⟨⟨zs_lload_n (k := 1) rfl (by decide +kernel), zg_lload _⟩, ⟨zs_aload_n (k := 0) rfl (by decide +kernel), zg_aload _⟩, ⟨zs_getI (ci := 2) (k := 10) (C := RX2) (T := TX2) (N := 14) rfl (by decide) (Or.inl rfl) wd_163 (by decide +kernel), zg_getI _ _⟩, ⟨zs_i2l (by decide +kernel), zg_i2l⟩, ⟨zs_lrem (by decide +kernel), zg_ldiv _⟩, ⟨zs_l2i (by decide +kernel), zg_l2i⟩, ⟨zs_istore_n (k := 3) rfl (by decide +kernel), zg_istore _⟩, ⟨zs_aload_n (k := 0) rfl (by decide +kernel), zg_aload _⟩, ⟨zs_iload_n (k := 3) rfl (by decide +kernel), zg_iload _⟩, ⟨zs_callV (ci := 2) (C := RX2) (T := TX2) (N := 14) (n := 1) rfl mk_38 rfl ⟨rfl, rfl⟩ ck_38 wd_518 wd_519 wd_520 rfl (by decide +kernel), zg_callV _ _ _ _⟩, trivial⟩,
  ⟨⟨zs_zne (off := 23) (q := 45) (by decide +kernel) rfl (by decide), zg_zne _⟩, ⟨zs_lload_n (k := 1) rfl (by decide +kernel), zg_lload _⟩, ⟨zs_ldc2 (i := 136) wd_919 (by decide +kernel), zg_push _⟩, ⟨zs_ldiv (by decide +kernel), zg_ldiv _⟩, ⟨zs_ldc2 (i := 138) wd_920 (by decide +kernel), zg_push _⟩, ⟨zs_lrem (by decide +kernel), zg_ldiv _⟩, ⟨zs_lconst (n := 0) (by decide +kernel) (by decide), zg_push _⟩, ⟨zs_lcmp (by decide +kernel), zg_lcmp⟩, ⟨zs_zne (off := 9) (q := 45) (by decide +kernel) rfl (by decide), zg_zne _⟩, ⟨zs_aload_n (k := 0) rfl (by decide +kernel), zg_aload _⟩, ⟨zs_iload_n (k := 3) rfl (by decide +kernel), zg_iload _⟩, ⟨zs_iconst (n := 1) (by decide +kernel) (by decide), zg_push _⟩, ⟨zs_callV (ci := 2) (C := RX2) (T := TX2) (N := 14) (n := 2) rfl mk_53 rfl ⟨rfl, rfl⟩ ck_53 wd_921 wd_613 wd_614 rfl (by decide +kernel), zg_callV _ _ _ _⟩, trivial⟩,
  ⟨⟨zs_vret (by decide +kernel) rfl, zg_vret⟩, trivial⟩, trivial⟩
-- NeverTogether$House.perform(I)V
def tb_55 : List zz_B := [[(1, zi_aload 0), (3, zi_getI 2 13), (3, zi_zlt 1), (1, zi_aload 0), (3, zi_getI 2 13), (2, zi_push (.int 40)), (3, zi_clt 2), (0, zi_jump 1)],
  [(1, zi_vret)],
  [(1, zi_aload 0), (3, zi_getR 2 6), (1, zi_aload 0), (3, zi_getI 2 13), (1, zi_iload 1), (1, zi_iast), (1, zi_aload 0), (1, zi_dup), (3, zi_getI 2 13), (1, zi_push (.int 1)), (1, zi_ibin (fun x y => x + y)), (3, zi_putI 2 13), (1, zi_iload 1), (3, zi_zne 4), (1, zi_aload 0), (3, zi_callV 2 56 1 3)],
  [(1, zi_vret)],
  [(1, zi_iload 1), (1, zi_push (.int 4)), (1, zi_ibin (fun x y => x >>> (y &&& 31))), (1, zi_istore 2), (1, zi_aload 0), (1, zi_iload 2), (3, zi_callV 2 31 2 5)],
  [(3, zi_zeq 7), (1, zi_aload 0), (3, zi_getR 2 5), (1, zi_iload 2), (1, zi_aload 0), (3, zi_getR 2 5), (1, zi_iload 2), (1, zi_iald), (1, zi_iload 1), (2, zi_push (.int 15)), (1, zi_ibin (fun x y => x &&& y)), (1, zi_ibin (fun x y => x + y)), (2, zi_push (.int 6)), (1, zi_ibin (fun x y => x - y)), (3, zi_callS 153 1 6)],
  [(1, zi_iast), (1, zi_aload 0), (1, zi_dup), (3, zi_getI 2 12), (1, zi_push (.int 1)), (1, zi_iload 2), (1, zi_ibin (fun x y => x <<< (y &&& 31))), (1, zi_ibin (fun x y => x ||| y)), (3, zi_putI 2 12), (0, zi_jump 7)],
  [(1, zi_vret)]]
def pc_55 : List Nat := [0, 16, 17, 45, 46, 55, 80, 93]
set_option maxRecDepth 20000 in
theorem sa_55 : zz_SA zz_mt RX2 yX2_perform cX2_perform none 3 pc_55 pc_55 tb_55 := ⟨⟨⟨zs_aload_n (k := 0) rfl (by decide +kernel), zg_aload _⟩, ⟨zs_getI (ci := 2) (k := 13) (C := RX2) (T := TX2) (N := 14) rfl (by decide) (Or.inl rfl) wd_169 (by decide +kernel), zg_getI _ _⟩, ⟨zs_zlt (off := 12) (q := 16) (by decide +kernel) rfl (by decide), zg_zlt _⟩, ⟨zs_aload_n (k := 0) rfl (by decide +kernel), zg_aload _⟩, ⟨zs_getI (ci := 2) (k := 13) (C := RX2) (T := TX2) (N := 14) rfl (by decide) (Or.inl rfl) wd_169 (by decide +kernel), zg_getI _ _⟩, ⟨zs_bipush (n := 40) (by decide +kernel) (by decide), zg_push _⟩, ⟨zs_clt (off := 4) (q := 17) (by decide +kernel) rfl (by decide), zg_clt _⟩, ⟨zs_jump rfl, zg_jump _⟩, trivial⟩,
  ⟨⟨zs_vret (by decide +kernel) rfl, zg_vret⟩, trivial⟩,
  ⟨⟨zs_aload_n (k := 0) rfl (by decide +kernel), zg_aload _⟩, ⟨zs_getR (ci := 2) (k := 6) (C := RX2) (T := TX2) (N := 14) rfl (by decide) rfl wd_157 (by decide +kernel), zg_getR _ _⟩, ⟨zs_aload_n (k := 0) rfl (by decide +kernel), zg_aload _⟩, ⟨zs_getI (ci := 2) (k := 13) (C := RX2) (T := TX2) (N := 14) rfl (by decide) (Or.inl rfl) wd_169 (by decide +kernel), zg_getI _ _⟩, ⟨zs_iload_n (k := 1) rfl (by decide +kernel), zg_iload _⟩, ⟨zs_iast (by decide +kernel), zg_iast⟩, ⟨zs_aload_n (k := 0) rfl (by decide +kernel), zg_aload _⟩, ⟨zs_dup (by decide +kernel), zg_dup⟩, ⟨zs_getI (ci := 2) (k := 13) (C := RX2) (T := TX2) (N := 14) rfl (by decide) (Or.inl rfl) wd_169 (by decide +kernel), zg_getI _ _⟩, ⟨zs_iconst (n := 1) (by decide +kernel) (by decide), zg_push _⟩, ⟨zs_iadd (by decide +kernel), zg_ibin _⟩, ⟨zs_putI (ci := 2) (k := 13) (C := RX2) (T := TX2) (N := 14) rfl (by decide) rfl rfl wd_169 (by decide +kernel), zg_putI _ _⟩, ⟨zs_iload_n (k := 1) rfl (by decide +kernel), zg_iload _⟩, ⟨zs_zne (off := 8) (q := 46) (by decide +kernel) rfl (by decide), zg_zne _⟩, ⟨zs_aload_n (k := 0) rfl (by decide +kernel), zg_aload _⟩, ⟨zs_callV (ci := 2) (C := RX2) (T := TX2) (N := 14) (n := 0) rfl mk_56 rfl ⟨rfl, rfl⟩ ck_56 wd_460 wd_462 wd_8 rfl (by decide +kernel), zg_callV _ _ _ _⟩, trivial⟩,
  ⟨⟨zs_vret (by decide +kernel) rfl, zg_vret⟩, trivial⟩,
  ⟨⟨zs_iload_n (k := 1) rfl (by decide +kernel), zg_iload _⟩, ⟨zs_iconst (n := 4) (by decide +kernel) (by decide), zg_push _⟩, ⟨zs_ishr (by decide +kernel), zg_ibin _⟩, ⟨zs_istore_n (k := 2) rfl (by decide +kernel), zg_istore _⟩, ⟨zs_aload_n (k := 0) rfl (by decide +kernel), zg_aload _⟩, ⟨zs_iload_n (k := 2) rfl (by decide +kernel), zg_iload _⟩, ⟨zs_callV (ci := 2) (C := RX2) (T := TX2) (N := 14) (n := 1) rfl mk_31 rfl ⟨rfl, rfl⟩ ck_31 wd_476 wd_477 wd_478 rfl (by decide +kernel), zg_callV _ _ _ _⟩, trivial⟩,
  ⟨⟨zs_zeq (off := 38) (q := 93) (by decide +kernel) rfl (by decide), zg_zeq _⟩, ⟨zs_aload_n (k := 0) rfl (by decide +kernel), zg_aload _⟩, ⟨zs_getR (ci := 2) (k := 5) (C := RX2) (T := TX2) (N := 14) rfl (by decide) rfl wd_156 (by decide +kernel), zg_getR _ _⟩, ⟨zs_iload_n (k := 2) rfl (by decide +kernel), zg_iload _⟩, ⟨zs_aload_n (k := 0) rfl (by decide +kernel), zg_aload _⟩, ⟨zs_getR (ci := 2) (k := 5) (C := RX2) (T := TX2) (N := 14) rfl (by decide) rfl wd_156 (by decide +kernel), zg_getR _ _⟩, ⟨zs_iload_n (k := 2) rfl (by decide +kernel), zg_iload _⟩, ⟨zs_iald (by decide +kernel), zg_iald⟩, ⟨zs_iload_n (k := 1) rfl (by decide +kernel), zg_iload _⟩, ⟨zs_bipush (n := 15) (by decide +kernel) (by decide), zg_push _⟩, ⟨zs_iand (by decide +kernel), zg_ibin _⟩, ⟨zs_iadd (by decide +kernel), zg_ibin _⟩, ⟨zs_bipush (n := 6) (by decide +kernel) (by decide), zg_push _⟩, ⟨zs_isub (by decide +kernel), zg_ibin _⟩, ⟨zs_callSN (n := 1) mk_153 ⟨rfl, rfl⟩ ck_153 wn_485 wd_486 wd_69 rfl (by decide +kernel), zg_callS _ _ _⟩, trivial⟩,
  ⟨⟨zs_iast (by decide +kernel), zg_iast⟩, ⟨zs_aload_n (k := 0) rfl (by decide +kernel), zg_aload _⟩, ⟨zs_dup (by decide +kernel), zg_dup⟩, ⟨zs_getI (ci := 2) (k := 12) (C := RX2) (T := TX2) (N := 14) rfl (by decide) (Or.inl rfl) wd_167 (by decide +kernel), zg_getI _ _⟩, ⟨zs_iconst (n := 1) (by decide +kernel) (by decide), zg_push _⟩, ⟨zs_iload_n (k := 2) rfl (by decide +kernel), zg_iload _⟩, ⟨zs_ishl (by decide +kernel), zg_ibin _⟩, ⟨zs_ior (by decide +kernel), zg_ibin _⟩, ⟨zs_putI (ci := 2) (k := 12) (C := RX2) (T := TX2) (N := 14) rfl (by decide) rfl rfl wd_167 (by decide +kernel), zg_putI _ _⟩, ⟨zs_jump rfl, zg_jump _⟩, trivial⟩,
  ⟨⟨zs_vret (by decide +kernel) rfl, zg_vret⟩, trivial⟩, trivial⟩
-- NeverTogether$House.gainAll()V
def tb_56 : List zz_B := [[(1, zi_aload 0), (1, zi_push (.int 0)), (3, zi_callV 2 42 2 1)],
  [(1, zi_istore 1), (1, zi_push (.int 0)), (1, zi_istore 2), (0, zi_jump 2)],
  [(1, zi_iload 2), (2, zi_push (.int 6)), (3, zi_cge 4), (1, zi_aload 0), (3, zi_getR 2 5), (1, zi_iload 2), (1, zi_aload 0), (1, zi_iload 2), (1, zi_push (.int 1)), (1, zi_iload 1), (3, zi_callV 2 44 4 3)],
  [(1, zi_iast), (3, zi_iinc 2 1), (3, zi_jump 2)],
  [(1, zi_aload 0), (1, zi_dup), (3, zi_getI 2 11), (1, zi_push (.int 1)), (1, zi_ibin (fun x y => x + y)), (3, zi_putI 2 11), (1, zi_aload 0), (1, zi_push (.int 0)), (3, zi_putI 2 12), (1, zi_vret)]]
def pc_56 : List Nat := [0, 5, 8, 26, 33]
set_option maxRecDepth 20000 in
theorem sa_56 : zz_SA zz_mt RX2 yX2_gainAll cX2_gainAll none 3 pc_56 pc_56 tb_56 := ⟨⟨⟨zs_aload_n (k := 0) rfl (by decide +kernel), zg_aload _⟩, ⟨zs_iconst (n := 0) (by decide +kernel) (by decide), zg_push _⟩, ⟨zs_callV (ci := 2) (C := RX2) (T := TX2) (N := 14) (n := 1) rfl mk_42 rfl ⟨rfl, rfl⟩ ck_42 wd_464 wd_465 wd_466 rfl (by decide +kernel), zg_callV _ _ _ _⟩, trivial⟩,
  ⟨⟨zs_istore_n (k := 1) rfl (by decide +kernel), zg_istore _⟩, ⟨zs_iconst (n := 0) (by decide +kernel) (by decide), zg_push _⟩, ⟨zs_istore_n (k := 2) rfl (by decide +kernel), zg_istore _⟩, ⟨zs_jump rfl, zg_jump _⟩, trivial⟩,
  ⟨⟨zs_iload_n (k := 2) rfl (by decide +kernel), zg_iload _⟩, ⟨zs_bipush (n := 6) (by decide +kernel) (by decide), zg_push _⟩, ⟨zs_cge (off := 22) (q := 33) (by decide +kernel) rfl (by decide), zg_cge _⟩, ⟨zs_aload_n (k := 0) rfl (by decide +kernel), zg_aload _⟩, ⟨zs_getR (ci := 2) (k := 5) (C := RX2) (T := TX2) (N := 14) rfl (by decide) rfl wd_156 (by decide +kernel), zg_getR _ _⟩, ⟨zs_iload_n (k := 2) rfl (by decide +kernel), zg_iload _⟩, ⟨zs_aload_n (k := 0) rfl (by decide +kernel), zg_aload _⟩, ⟨zs_iload_n (k := 2) rfl (by decide +kernel), zg_iload _⟩, ⟨zs_iconst (n := 1) (by decide +kernel) (by decide), zg_push _⟩, ⟨zs_iload_n (k := 1) rfl (by decide +kernel), zg_iload _⟩, ⟨zs_callV (ci := 2) (C := RX2) (T := TX2) (N := 14) (n := 3) rfl mk_44 rfl ⟨rfl, rfl⟩ ck_44 wd_472 wd_473 wd_474 rfl (by decide +kernel), zg_callV _ _ _ _⟩, trivial⟩,
  ⟨⟨zs_iast (by decide +kernel), zg_iast⟩, ⟨zs_iinc (n := 1) (by decide +kernel) (by decide), zg_iinc _ _⟩, ⟨zs_goto (off := (-22)) (q := 8) (by decide +kernel) rfl (by decide), zg_jump _⟩, trivial⟩,
  ⟨⟨zs_aload_n (k := 0) rfl (by decide +kernel), zg_aload _⟩, ⟨zs_dup (by decide +kernel), zg_dup⟩, ⟨zs_getI (ci := 2) (k := 11) (C := RX2) (T := TX2) (N := 14) rfl (by decide) (Or.inl rfl) wd_165 (by decide +kernel), zg_getI _ _⟩, ⟨zs_iconst (n := 1) (by decide +kernel) (by decide), zg_push _⟩, ⟨zs_iadd (by decide +kernel), zg_ibin _⟩, ⟨zs_putI (ci := 2) (k := 11) (C := RX2) (T := TX2) (N := 14) rfl (by decide) rfl rfl wd_165 (by decide +kernel), zg_putI _ _⟩, ⟨zs_aload_n (k := 0) rfl (by decide +kernel), zg_aload _⟩, ⟨zs_iconst (n := 0) (by decide +kernel) (by decide), zg_push _⟩, ⟨zs_putI (ci := 2) (k := 12) (C := RX2) (T := TX2) (N := 14) rfl (by decide) rfl rfl wd_167 (by decide +kernel), zg_putI _ _⟩, ⟨zs_vret (by decide +kernel) rfl, zg_vret⟩, trivial⟩, trivial⟩
-- NeverTogether$House.goBackTo(I)V
def tb_57 : List zz_B := [[(1, zi_push (.int 0)), (1, zi_istore 2), (0, zi_jump 1)],
  [(1, zi_iload 2), (2, zi_push (.int 6)), (3, zi_cge 2), (1, zi_aload 0), (3, zi_getR 2 5), (1, zi_iload 2), (1, zi_aload 0), (3, zi_getR 2 2), (1, zi_iload 2), (1, zi_iald), (1, zi_iast), (3, zi_iinc 2 1), (3, zi_jump 1)],
  [(1, zi_aload 0), (1, zi_push (.int 0)), (3, zi_putI 2 11), (1, zi_aload 0), (1, zi_push (.int 0)), (3, zi_putI 2 12), (1, zi_aload 0), (1, zi_push (.int 0)), (3, zi_putI 2 13), (1, zi_push (.int 0)), (1, zi_istore 2), (0, zi_jump 3)],
  [(1, zi_iload 2), (1, zi_iload 1), (3, zi_cge 5), (1, zi_iload 2), (2, zi_push (.int 40)), (3, zi_cge 5), (1, zi_aload 0), (1, zi_aload 0), (3, zi_getR 2 6), (1, zi_iload 2), (1, zi_iald), (3, zi_callV 2 55 2 4)],
  [(3, zi_iinc 2 1), (3, zi_jump 3)],
  [(1, zi_vret)]]
def pc_57 : List Nat := [0, 2, 26, 43, 64, 70]
set_option maxRecDepth 20000 in
theorem sa_57 : zz_SA zz_mt RX2 yX2_goBackTo cX2_goBackTo none 3 pc_57 pc_57 tb_57 := ⟨⟨⟨zs_iconst (n := 0) (by decide +kernel) (by decide), zg_push _⟩, ⟨zs_istore_n (k := 2) rfl (by decide +kernel), zg_istore _⟩, ⟨zs_jump rfl, zg_jump _⟩, trivial⟩,
  ⟨⟨zs_iload_n (k := 2) rfl (by decide +kernel), zg_iload _⟩, ⟨zs_bipush (n := 6) (by decide +kernel) (by decide), zg_push _⟩, ⟨zs_cge (off := 21) (q := 26) (by decide +kernel) rfl (by decide), zg_cge _⟩, ⟨zs_aload_n (k := 0) rfl (by decide +kernel), zg_aload _⟩, ⟨zs_getR (ci := 2) (k := 5) (C := RX2) (T := TX2) (N := 14) rfl (by decide) rfl wd_156 (by decide +kernel), zg_getR _ _⟩, ⟨zs_iload_n (k := 2) rfl (by decide +kernel), zg_iload _⟩, ⟨zs_aload_n (k := 0) rfl (by decide +kernel), zg_aload _⟩, ⟨zs_getR (ci := 2) (k := 2) (C := RX2) (T := TX2) (N := 14) rfl (by decide) rfl wd_153 (by decide +kernel), zg_getR _ _⟩, ⟨zs_iload_n (k := 2) rfl (by decide +kernel), zg_iload _⟩, ⟨zs_iald (by decide +kernel), zg_iald⟩, ⟨zs_iast (by decide +kernel), zg_iast⟩, ⟨zs_iinc (n := 1) (by decide +kernel) (by decide), zg_iinc _ _⟩, ⟨zs_goto (off := (-21)) (q := 2) (by decide +kernel) rfl (by decide), zg_jump _⟩, trivial⟩,
  ⟨⟨zs_aload_n (k := 0) rfl (by decide +kernel), zg_aload _⟩, ⟨zs_iconst (n := 0) (by decide +kernel) (by decide), zg_push _⟩, ⟨zs_putI (ci := 2) (k := 11) (C := RX2) (T := TX2) (N := 14) rfl (by decide) rfl rfl wd_165 (by decide +kernel), zg_putI _ _⟩, ⟨zs_aload_n (k := 0) rfl (by decide +kernel), zg_aload _⟩, ⟨zs_iconst (n := 0) (by decide +kernel) (by decide), zg_push _⟩, ⟨zs_putI (ci := 2) (k := 12) (C := RX2) (T := TX2) (N := 14) rfl (by decide) rfl rfl wd_167 (by decide +kernel), zg_putI _ _⟩, ⟨zs_aload_n (k := 0) rfl (by decide +kernel), zg_aload _⟩, ⟨zs_iconst (n := 0) (by decide +kernel) (by decide), zg_push _⟩, ⟨zs_putI (ci := 2) (k := 13) (C := RX2) (T := TX2) (N := 14) rfl (by decide) rfl rfl wd_169 (by decide +kernel), zg_putI _ _⟩, ⟨zs_iconst (n := 0) (by decide +kernel) (by decide), zg_push _⟩, ⟨zs_istore_n (k := 2) rfl (by decide +kernel), zg_istore _⟩, ⟨zs_jump rfl, zg_jump _⟩, trivial⟩,
  ⟨⟨zs_iload_n (k := 2) rfl (by decide +kernel), zg_iload _⟩, ⟨zs_iload_n (k := 1) rfl (by decide +kernel), zg_iload _⟩, ⟨zs_cge (off := 25) (q := 70) (by decide +kernel) rfl (by decide), zg_cge _⟩, ⟨zs_iload_n (k := 2) rfl (by decide +kernel), zg_iload _⟩, ⟨zs_bipush (n := 40) (by decide +kernel) (by decide), zg_push _⟩, ⟨zs_cge (off := 19) (q := 70) (by decide +kernel) rfl (by decide), zg_cge _⟩, ⟨zs_aload_n (k := 0) rfl (by decide +kernel), zg_aload _⟩, ⟨zs_aload_n (k := 0) rfl (by decide +kernel), zg_aload _⟩, ⟨zs_getR (ci := 2) (k := 6) (C := RX2) (T := TX2) (N := 14) rfl (by decide) rfl wd_157 (by decide +kernel), zg_getR _ _⟩, ⟨zs_iload_n (k := 2) rfl (by decide +kernel), zg_iload _⟩, ⟨zs_iald (by decide +kernel), zg_iald⟩, ⟨zs_callV (ci := 2) (C := RX2) (T := TX2) (N := 14) (n := 1) rfl mk_55 rfl ⟨rfl, rfl⟩ ck_55 wd_456 wd_458 wd_7 rfl (by decide +kernel), zg_callV _ _ _ _⟩, trivial⟩,
  ⟨⟨zs_iinc (n := 1) (by decide +kernel) (by decide), zg_iinc _ _⟩, ⟨zs_goto (off := (-24)) (q := 43) (by decide +kernel) rfl (by decide), zg_jump _⟩, trivial⟩,
  ⟨⟨zs_vret (by decide +kernel) rfl, zg_vret⟩, trivial⟩, trivial⟩
-- NeverTogether$House.keptDeeds(I)I
def tb_58 : List zz_B := [[(1, zi_iload 1), (3, zi_zlt 1), (1, zi_iload 1), (1, zi_push (.int 3)), (3, zi_cge 1), (1, zi_aload 0), (3, zi_getR 2 8), (1, zi_iload 1), (1, zi_iald), (3, zi_jump 2)],
  [(1, zi_push (.int (-1))), (0, zi_jump 2)],
  [(1, zi_iret)]]
def pc_58 : List Nat := [0, 18, 19]
set_option maxRecDepth 20000 in
theorem sa_58 : zz_SA zz_mt RX2 yX2_keptDeeds cX2_keptDeeds (some .int) 2 pc_58 pc_58 tb_58 := ⟨⟨⟨zs_iload_n (k := 1) rfl (by decide +kernel), zg_iload _⟩, ⟨zs_zlt (off := 17) (q := 18) (by decide +kernel) rfl (by decide), zg_zlt _⟩, ⟨zs_iload_n (k := 1) rfl (by decide +kernel), zg_iload _⟩, ⟨zs_iconst (n := 3) (by decide +kernel) (by decide), zg_push _⟩, ⟨zs_cge (off := 12) (q := 18) (by decide +kernel) rfl (by decide), zg_cge _⟩, ⟨zs_aload_n (k := 0) rfl (by decide +kernel), zg_aload _⟩, ⟨zs_getR (ci := 2) (k := 8) (C := RX2) (T := TX2) (N := 14) rfl (by decide) rfl wd_159 (by decide +kernel), zg_getR _ _⟩, ⟨zs_iload_n (k := 1) rfl (by decide +kernel), zg_iload _⟩, ⟨zs_iald (by decide +kernel), zg_iald⟩, ⟨zs_goto (off := 4) (q := 19) (by decide +kernel) rfl (by decide), zg_jump _⟩, trivial⟩,
  ⟨⟨zs_iconst (n := (-1)) (by decide +kernel) (by decide), zg_push _⟩, ⟨zs_jump rfl, zg_jump _⟩, trivial⟩,
  ⟨⟨zs_iret (by decide +kernel) rfl, zg_iret⟩, trivial⟩, trivial⟩
-- NeverTogether$House.howManyKept()I
def tb_59 : List zz_B := [[(1, zi_push (.int 0)), (1, zi_istore 1), (1, zi_push (.int 0)), (1, zi_istore 2), (0, zi_jump 1)],
  [(1, zi_iload 2), (1, zi_push (.int 3)), (3, zi_cge 3), (1, zi_aload 0), (3, zi_getR 2 8), (1, zi_iload 2), (1, zi_iald), (3, zi_zlt 2), (3, zi_iinc 1 1), (0, zi_jump 2)],
  [(3, zi_iinc 2 1), (3, zi_jump 1)],
  [(1, zi_iload 1), (1, zi_iret)]]
def pc_59 : List Nat := [0, 4, 21, 27]
set_option maxRecDepth 20000 in
theorem sa_59 : zz_SA zz_mt RX2 yX2_howManyKept cX2_howManyKept (some .int) 3 pc_59 pc_59 tb_59 := ⟨⟨⟨zs_iconst (n := 0) (by decide +kernel) (by decide), zg_push _⟩, ⟨zs_istore_n (k := 1) rfl (by decide +kernel), zg_istore _⟩, ⟨zs_iconst (n := 0) (by decide +kernel) (by decide), zg_push _⟩, ⟨zs_istore_n (k := 2) rfl (by decide +kernel), zg_istore _⟩, ⟨zs_jump rfl, zg_jump _⟩, trivial⟩,
  ⟨⟨zs_iload_n (k := 2) rfl (by decide +kernel), zg_iload _⟩, ⟨zs_iconst (n := 3) (by decide +kernel) (by decide), zg_push _⟩, ⟨zs_cge (off := 21) (q := 27) (by decide +kernel) rfl (by decide), zg_cge _⟩, ⟨zs_aload_n (k := 0) rfl (by decide +kernel), zg_aload _⟩, ⟨zs_getR (ci := 2) (k := 8) (C := RX2) (T := TX2) (N := 14) rfl (by decide) rfl wd_159 (by decide +kernel), zg_getR _ _⟩, ⟨zs_iload_n (k := 2) rfl (by decide +kernel), zg_iload _⟩, ⟨zs_iald (by decide +kernel), zg_iald⟩, ⟨zs_zlt (off := 6) (q := 21) (by decide +kernel) rfl (by decide), zg_zlt _⟩, ⟨zs_iinc (n := 1) (by decide +kernel) (by decide), zg_iinc _ _⟩, ⟨zs_jump rfl, zg_jump _⟩, trivial⟩,
  ⟨⟨zs_iinc (n := 1) (by decide +kernel) (by decide), zg_iinc _ _⟩, ⟨zs_goto (off := (-20)) (q := 4) (by decide +kernel) rfl (by decide), zg_jump _⟩, trivial⟩,
  ⟨⟨zs_iload_n (k := 1) rfl (by decide +kernel), zg_iload _⟩, ⟨zs_iret (by decide +kernel) rfl, zg_iret⟩, trivial⟩, trivial⟩
-- NeverTogether$House.keepIn(I)V
def tb_60 : List zz_B := [[(1, zi_iload 1), (3, zi_zlt 1), (1, zi_iload 1), (1, zi_push (.int 3)), (3, zi_clt 2), (0, zi_jump 1)],
  [(1, zi_vret)],
  [(1, zi_push (.int 0)), (1, zi_istore 2), (0, zi_jump 3)],
  [(1, zi_iload 2), (2, zi_push (.int 40)), (3, zi_cge 5), (1, zi_aload 0), (3, zi_getR 2 7), (1, zi_iload 1), (1, zi_aald 4)],
  [(1, zi_iload 2), (1, zi_aload 0), (3, zi_getR 2 6), (1, zi_iload 2), (1, zi_iald), (1, zi_iast), (3, zi_iinc 2 1), (3, zi_jump 3)],
  [(1, zi_aload 0), (3, zi_getR 2 8), (1, zi_iload 1), (1, zi_aload 0), (3, zi_getI 2 13), (1, zi_iast), (1, zi_vret)]]
def pc_60 : List Nat := [0, 9, 10, 12, 24, 38]
set_option maxRecDepth 20000 in
theorem sa_60 : zz_SA zz_mt RX2 yX2_keepIn cX2_keepIn none 3 pc_60 pc_60 tb_60 := ⟨⟨⟨zs_iload_n (k := 1) rfl (by decide +kernel), zg_iload _⟩, ⟨zs_zlt (off := 8) (q := 9) (by decide +kernel) rfl (by decide), zg_zlt _⟩, ⟨zs_iload_n (k := 1) rfl (by decide +kernel), zg_iload _⟩, ⟨zs_iconst (n := 3) (by decide +kernel) (by decide), zg_push _⟩, ⟨zs_clt (off := 4) (q := 10) (by decide +kernel) rfl (by decide), zg_clt _⟩, ⟨zs_jump rfl, zg_jump _⟩, trivial⟩,
  ⟨⟨zs_vret (by decide +kernel) rfl, zg_vret⟩, trivial⟩,
  ⟨⟨zs_iconst (n := 0) (by decide +kernel) (by decide), zg_push _⟩, ⟨zs_istore_n (k := 2) rfl (by decide +kernel), zg_istore _⟩, ⟨zs_jump rfl, zg_jump _⟩, trivial⟩,
  ⟨⟨zs_iload_n (k := 2) rfl (by decide +kernel), zg_iload _⟩, ⟨zs_bipush (n := 40) (by decide +kernel) (by decide), zg_push _⟩, ⟨zs_cge (off := 23) (q := 38) (by decide +kernel) rfl (by decide), zg_cge _⟩, ⟨zs_aload_n (k := 0) rfl (by decide +kernel), zg_aload _⟩, ⟨zs_getR (ci := 2) (k := 7) (C := RX2) (T := TX2) (N := 14) rfl (by decide) rfl wd_158 (by decide +kernel), zg_getR _ _⟩, ⟨zs_iload_n (k := 1) rfl (by decide +kernel), zg_iload _⟩, ⟨zs_aald rfl (by decide +kernel), zg_aald _⟩, trivial⟩,
  ⟨⟨zs_iload_n (k := 2) rfl (by decide +kernel), zg_iload _⟩, ⟨zs_aload_n (k := 0) rfl (by decide +kernel), zg_aload _⟩, ⟨zs_getR (ci := 2) (k := 6) (C := RX2) (T := TX2) (N := 14) rfl (by decide) rfl wd_157 (by decide +kernel), zg_getR _ _⟩, ⟨zs_iload_n (k := 2) rfl (by decide +kernel), zg_iload _⟩, ⟨zs_iald (by decide +kernel), zg_iald⟩, ⟨zs_iast (by decide +kernel), zg_iast⟩, ⟨zs_iinc (n := 1) (by decide +kernel) (by decide), zg_iinc _ _⟩, ⟨zs_goto (off := (-23)) (q := 12) (by decide +kernel) rfl (by decide), zg_jump _⟩, trivial⟩,
  ⟨⟨zs_aload_n (k := 0) rfl (by decide +kernel), zg_aload _⟩, ⟨zs_getR (ci := 2) (k := 8) (C := RX2) (T := TX2) (N := 14) rfl (by decide) rfl wd_159 (by decide +kernel), zg_getR _ _⟩, ⟨zs_iload_n (k := 1) rfl (by decide +kernel), zg_iload _⟩, ⟨zs_aload_n (k := 0) rfl (by decide +kernel), zg_aload _⟩, ⟨zs_getI (ci := 2) (k := 13) (C := RX2) (T := TX2) (N := 14) rfl (by decide) (Or.inl rfl) wd_169 (by decide +kernel), zg_getI _ _⟩, ⟨zs_iast (by decide +kernel), zg_iast⟩, ⟨zs_vret (by decide +kernel) rfl, zg_vret⟩, trivial⟩, trivial⟩
-- NeverTogether$House.goOnFrom(I)V
def tb_61 : List zz_B := [[(1, zi_aload 0), (1, zi_iload 1), (3, zi_callV 2 58 2 1)],
  [(3, zi_zge 2), (1, zi_vret)],
  [(1, zi_push (.int 0)), (1, zi_istore 2), (0, zi_jump 3)],
  [(1, zi_iload 2), (2, zi_push (.int 40)), (3, zi_cge 5), (1, zi_aload 0), (3, zi_getR 2 6), (1, zi_iload 2), (1, zi_aload 0), (3, zi_getR 2 7), (1, zi_iload 1), (1, zi_aald 4)],
  [(1, zi_iload 2), (1, zi_iald), (1, zi_iast), (3, zi_iinc 2 1), (3, zi_jump 3)],
  [(1, zi_aload 0), (1, zi_aload 0), (3, zi_getR 2 8), (1, zi_iload 1), (1, zi_iald), (3, zi_callV 2 57 2 6)],
  [(1, zi_vret)]]
def pc_61 : List Nat := [0, 5, 9, 11, 28, 37, 47]
set_option maxRecDepth 20000 in
theorem sa_61 : zz_SA zz_mt RX2 yX2_goOnFrom cX2_goOnFrom none 3 pc_61 pc_61 tb_61 := ⟨⟨⟨zs_aload_n (k := 0) rfl (by decide +kernel), zg_aload _⟩, ⟨zs_iload_n (k := 1) rfl (by decide +kernel), zg_iload _⟩, ⟨zs_callV (ci := 2) (C := RX2) (T := TX2) (N := 14) (n := 1) rfl mk_58 rfl ⟨rfl, rfl⟩ ck_58 wd_642 wd_635 wd_636 rfl (by decide +kernel), zg_callV _ _ _ _⟩, trivial⟩,
  ⟨⟨zs_zge (off := 4) (q := 9) (by decide +kernel) rfl (by decide), zg_zge _⟩, ⟨zs_vret (by decide +kernel) rfl, zg_vret⟩, trivial⟩,
  ⟨⟨zs_iconst (n := 0) (by decide +kernel) (by decide), zg_push _⟩, ⟨zs_istore_n (k := 2) rfl (by decide +kernel), zg_istore _⟩, ⟨zs_jump rfl, zg_jump _⟩, trivial⟩,
  ⟨⟨zs_iload_n (k := 2) rfl (by decide +kernel), zg_iload _⟩, ⟨zs_bipush (n := 40) (by decide +kernel) (by decide), zg_push _⟩, ⟨zs_cge (off := 23) (q := 37) (by decide +kernel) rfl (by decide), zg_cge _⟩, ⟨zs_aload_n (k := 0) rfl (by decide +kernel), zg_aload _⟩, ⟨zs_getR (ci := 2) (k := 6) (C := RX2) (T := TX2) (N := 14) rfl (by decide) rfl wd_157 (by decide +kernel), zg_getR _ _⟩, ⟨zs_iload_n (k := 2) rfl (by decide +kernel), zg_iload _⟩, ⟨zs_aload_n (k := 0) rfl (by decide +kernel), zg_aload _⟩, ⟨zs_getR (ci := 2) (k := 7) (C := RX2) (T := TX2) (N := 14) rfl (by decide) rfl wd_158 (by decide +kernel), zg_getR _ _⟩, ⟨zs_iload_n (k := 1) rfl (by decide +kernel), zg_iload _⟩, ⟨zs_aald rfl (by decide +kernel), zg_aald _⟩, trivial⟩,
  ⟨⟨zs_iload_n (k := 2) rfl (by decide +kernel), zg_iload _⟩, ⟨zs_iald (by decide +kernel), zg_iald⟩, ⟨zs_iast (by decide +kernel), zg_iast⟩, ⟨zs_iinc (n := 1) (by decide +kernel) (by decide), zg_iinc _ _⟩, ⟨zs_goto (off := (-23)) (q := 11) (by decide +kernel) rfl (by decide), zg_jump _⟩, trivial⟩,
  ⟨⟨zs_aload_n (k := 0) rfl (by decide +kernel), zg_aload _⟩, ⟨zs_aload_n (k := 0) rfl (by decide +kernel), zg_aload _⟩, ⟨zs_getR (ci := 2) (k := 8) (C := RX2) (T := TX2) (N := 14) rfl (by decide) rfl wd_159 (by decide +kernel), zg_getR _ _⟩, ⟨zs_iload_n (k := 1) rfl (by decide +kernel), zg_iload _⟩, ⟨zs_iald (by decide +kernel), zg_iald⟩, ⟨zs_callV (ci := 2) (C := RX2) (T := TX2) (N := 14) (n := 1) rfl mk_57 rfl ⟨rfl, rfl⟩ ck_57 wd_452 wd_453 wd_454 rfl (by decide +kernel), zg_callV _ _ _ _⟩, trivial⟩,
  ⟨⟨zs_vret (by decide +kernel) rfl, zg_vret⟩, trivial⟩, trivial⟩
-- NeverTogether$Moment.see(LNeverTogether$House;II)V
def tb_62 : List zz_B := [[(1, zi_aload 0), (1, zi_aload 1), (3, zi_getI 2 10), (3, zi_putI 4 1), (1, zi_push (.int 0)), (2, zi_istore 4), (0, zi_jump 1)],
  [(2, zi_iload 4), (1, zi_aload 0), (3, zi_getI 4 1), (3, zi_cge 3), (2, zi_iload 4), (2, zi_push (.int 6)), (3, zi_cge 3), (1, zi_aload 0), (3, zi_getR 4 0), (2, zi_iload 4), (1, zi_aload 1), (2, zi_iload 4), (1, zi_iload 2), (1, zi_iload 3), (3, zi_callV 2 45 4 2)],
  [(1, zi_last), (3, zi_iinc 4 1), (3, zi_jump 1)],
  [(1, zi_vret)]]
def pc_62 : List Nat := [0, 11, 41, 48]
set_option maxRecDepth 20000 in
theorem sa_62 : zz_SA zz_mt RX4 yX4_see cX4_see none 5 pc_62 pc_62 tb_62 := ⟨⟨⟨zs_aload_n (k := 0) rfl (by decide +kernel), zg_aload _⟩, ⟨zs_aload_n (k := 1) rfl (by decide +kernel), zg_aload _⟩, ⟨zs_getIN (ci := 2) (k := 10) (C := RX2) (T := TX2) (N := 14) rfl (by decide) (Or.inl rfl) wn_161 (by decide +kernel), zg_getI _ _⟩, ⟨zs_putI (ci := 4) (k := 1) (C := RX4) (T := TX4) (N := 2) rfl (by decide) rfl rfl wd_206 (by decide +kernel), zg_putI _ _⟩, ⟨zs_iconst (n := 0) (by decide +kernel) (by decide), zg_push _⟩, ⟨zs_istore (by decide +kernel), zg_istore _⟩, ⟨zs_jump rfl, zg_jump _⟩, trivial⟩,
  ⟨⟨zs_iload (by decide +kernel), zg_iload _⟩, ⟨zs_aload_n (k := 0) rfl (by decide +kernel), zg_aload _⟩, ⟨zs_getI (ci := 4) (k := 1) (C := RX4) (T := TX4) (N := 2) rfl (by decide) (Or.inl rfl) wd_206 (by decide +kernel), zg_getI _ _⟩, ⟨zs_cge (off := 31) (q := 48) (by decide +kernel) rfl (by decide), zg_cge _⟩, ⟨zs_iload (by decide +kernel), zg_iload _⟩, ⟨zs_bipush (n := 6) (by decide +kernel) (by decide), zg_push _⟩, ⟨zs_cge (off := 24) (q := 48) (by decide +kernel) rfl (by decide), zg_cge _⟩, ⟨zs_aload_n (k := 0) rfl (by decide +kernel), zg_aload _⟩, ⟨zs_getR (ci := 4) (k := 0) (C := RX4) (T := TX4) (N := 2) rfl (by decide) rfl wd_205 (by decide +kernel), zg_getR _ _⟩, ⟨zs_iload (by decide +kernel), zg_iload _⟩, ⟨zs_aload_n (k := 1) rfl (by decide +kernel), zg_aload _⟩, ⟨zs_iload (by decide +kernel), zg_iload _⟩, ⟨zs_iload_n (k := 2) rfl (by decide +kernel), zg_iload _⟩, ⟨zs_iload_n (k := 3) rfl (by decide +kernel), zg_iload _⟩, ⟨zs_callV (ci := 2) (C := RX2) (T := TX2) (N := 14) (n := 3) rfl mk_45 rfl ⟨rfl, rfl⟩ ck_45 wd_554 wd_555 wd_556 rfl (by decide +kernel), zg_callV _ _ _ _⟩, trivial⟩,
  ⟨⟨zs_last (by decide +kernel), zg_last⟩, ⟨zs_iinc (n := 1) (by decide +kernel) (by decide), zg_iinc _ _⟩, ⟨zs_goto (off := (-34)) (q := 11) (by decide +kernel) rfl (by decide), zg_jump _⟩, trivial⟩,
  ⟨⟨zs_vret (by decide +kernel) rfl, zg_vret⟩, trivial⟩, trivial⟩
-- NeverTogether$Moment.doMeet(II)Z
def tb_63 : List zz_B := [[(1, zi_aload 0), (1, zi_iload 1), (3, zi_callV 4 64 2 1)],
  [(3, zi_zeq 3), (1, zi_aload 0), (1, zi_iload 2), (3, zi_callV 4 64 2 2)],
  [(3, zi_zeq 3), (1, zi_aload 0), (3, zi_getR 4 0), (1, zi_iload 1), (1, zi_lald), (1, zi_aload 0), (3, zi_getR 4 0), (1, zi_iload 2), (1, zi_lald), (1, zi_lbin (fun x y => x &&& y)), (1, zi_push (.long 0)), (1, zi_lcmp), (3, zi_zeq 3), (1, zi_push (.int 1)), (3, zi_jump 4)],
  [(1, zi_push (.int 0)), (0, zi_jump 4)],
  [(1, zi_zret)]]
def pc_63 : List Nat := [0, 5, 13, 38, 39]
set_option maxRecDepth 20000 in
theorem sa_63 : zz_SA zz_mt RX4 yX4_doMeet cX4_doMeet (some .boolean) 3 pc_63 pc_63 tb_63 := ⟨⟨⟨zs_aload_n (k := 0) rfl (by decide +kernel), zg_aload _⟩, ⟨zs_iload_n (k := 1) rfl (by decide +kernel), zg_iload _⟩, ⟨zs_callV (ci := 4) (C := RX4) (T := TX4) (N := 2) (n := 1) rfl mk_64 rfl ⟨rfl, rfl⟩ ck_64 wd_573 wd_575 wd_10 rfl (by decide +kernel), zg_callV _ _ _ _⟩, trivial⟩,
  ⟨⟨zs_zeq (off := 33) (q := 38) (by decide +kernel) rfl (by decide), zg_zeq _⟩, ⟨zs_aload_n (k := 0) rfl (by decide +kernel), zg_aload _⟩, ⟨zs_iload_n (k := 2) rfl (by decide +kernel), zg_iload _⟩, ⟨zs_callV (ci := 4) (C := RX4) (T := TX4) (N := 2) (n := 1) rfl mk_64 rfl ⟨rfl, rfl⟩ ck_64 wd_573 wd_575 wd_10 rfl (by decide +kernel), zg_callV _ _ _ _⟩, trivial⟩,
  ⟨⟨zs_zeq (off := 25) (q := 38) (by decide +kernel) rfl (by decide), zg_zeq _⟩, ⟨zs_aload_n (k := 0) rfl (by decide +kernel), zg_aload _⟩, ⟨zs_getR (ci := 4) (k := 0) (C := RX4) (T := TX4) (N := 2) rfl (by decide) rfl wd_205 (by decide +kernel), zg_getR _ _⟩, ⟨zs_iload_n (k := 1) rfl (by decide +kernel), zg_iload _⟩, ⟨zs_lald (by decide +kernel), zg_lald⟩, ⟨zs_aload_n (k := 0) rfl (by decide +kernel), zg_aload _⟩, ⟨zs_getR (ci := 4) (k := 0) (C := RX4) (T := TX4) (N := 2) rfl (by decide) rfl wd_205 (by decide +kernel), zg_getR _ _⟩, ⟨zs_iload_n (k := 2) rfl (by decide +kernel), zg_iload _⟩, ⟨zs_lald (by decide +kernel), zg_lald⟩, ⟨zs_land (by decide +kernel), zg_lbin _⟩, ⟨zs_lconst (n := 0) (by decide +kernel) (by decide), zg_push _⟩, ⟨zs_lcmp (by decide +kernel), zg_lcmp⟩, ⟨zs_zeq (off := 7) (q := 38) (by decide +kernel) rfl (by decide), zg_zeq _⟩, ⟨zs_iconst (n := 1) (by decide +kernel) (by decide), zg_push _⟩, ⟨zs_goto (off := 4) (q := 39) (by decide +kernel) rfl (by decide), zg_jump _⟩, trivial⟩,
  ⟨⟨zs_iconst (n := 0) (by decide +kernel) (by decide), zg_push _⟩, ⟨zs_jump rfl, zg_jump _⟩, trivial⟩,
  ⟨⟨zs_zret (by decide +kernel) rfl, zg_zret⟩, trivial⟩, trivial⟩
-- NeverTogether$Moment.isSeen(I)Z
def tb_64 : List zz_B := [[(1, zi_iload 1), (3, zi_zlt 1), (1, zi_iload 1), (1, zi_aload 0), (3, zi_getI 4 1), (3, zi_cge 1), (1, zi_iload 1), (2, zi_push (.int 6)), (3, zi_cge 1), (1, zi_push (.int 1)), (3, zi_jump 2)],
  [(1, zi_push (.int 0)), (0, zi_jump 2)],
  [(1, zi_zret)]]
def pc_64 : List Nat := [0, 22, 23]
set_option maxRecDepth 20000 in
theorem sa_64 : zz_SA zz_mt RX4 yX4_isSeen cX4_isSeen (some .boolean) 2 pc_64 pc_64 tb_64 := ⟨⟨⟨zs_iload_n (k := 1) rfl (by decide +kernel), zg_iload _⟩, ⟨zs_zlt (off := 21) (q := 22) (by decide +kernel) rfl (by decide), zg_zlt _⟩, ⟨zs_iload_n (k := 1) rfl (by decide +kernel), zg_iload _⟩, ⟨zs_aload_n (k := 0) rfl (by decide +kernel), zg_aload _⟩, ⟨zs_getI (ci := 4) (k := 1) (C := RX4) (T := TX4) (N := 2) rfl (by decide) (Or.inl rfl) wd_206 (by decide +kernel), zg_getI _ _⟩, ⟨zs_cge (off := 13) (q := 22) (by decide +kernel) rfl (by decide), zg_cge _⟩, ⟨zs_iload_n (k := 1) rfl (by decide +kernel), zg_iload _⟩, ⟨zs_bipush (n := 6) (by decide +kernel) (by decide), zg_push _⟩, ⟨zs_cge (off := 7) (q := 22) (by decide +kernel) rfl (by decide), zg_cge _⟩, ⟨zs_iconst (n := 1) (by decide +kernel) (by decide), zg_push _⟩, ⟨zs_goto (off := 4) (q := 23) (by decide +kernel) rfl (by decide), zg_jump _⟩, trivial⟩,
  ⟨⟨zs_iconst (n := 0) (by decide +kernel) (by decide), zg_push _⟩, ⟨zs_jump rfl, zg_jump _⟩, trivial⟩,
  ⟨⟨zs_zret (by decide +kernel) rfl, zg_zret⟩, trivial⟩, trivial⟩
-- NeverTogether$Moment.anyMeet()Z
def tb_65 : List zz_B := [[(1, zi_push (.long 0)), (1, zi_lstore 1), (1, zi_push (.int 0)), (1, zi_istore 3), (0, zi_jump 1)],
  [(1, zi_iload 3), (1, zi_aload 0), (3, zi_getI 4 1), (3, zi_cge 3), (1, zi_iload 3), (2, zi_push (.int 6)), (3, zi_cge 3), (1, zi_lload 1), (1, zi_aload 0), (3, zi_getR 4 0), (1, zi_iload 3), (1, zi_lald), (1, zi_lbin (fun x y => x &&& y)), (1, zi_push (.long 0)), (1, zi_lcmp), (3, zi_zeq 2), (1, zi_push (.int 1)), (1, zi_zret)],
  [(1, zi_lload 1), (1, zi_aload 0), (3, zi_getR 4 0), (1, zi_iload 3), (1, zi_lald), (1, zi_lbin (fun x y => x ||| y)), (1, zi_lstore 1), (3, zi_iinc 3 1), (3, zi_jump 1)],
  [(1, zi_push (.int 0)), (1, zi_zret)]]
def pc_65 : List Nat := [0, 4, 33, 48]
set_option maxRecDepth 20000 in
theorem sa_65 : zz_SA zz_mt RX4 yX4_anyMeet cX4_anyMeet (some .boolean) 4 pc_65 pc_65 tb_65 := ⟨⟨⟨zs_lconst (n := 0) (by decide +kernel) (by decide), zg_push _⟩, ⟨zs_lstore_n (k := 1) rfl (by decide +kernel), zg_lstore _⟩, ⟨zs_iconst (n := 0) (by decide +kernel) (by decide), zg_push _⟩, ⟨zs_istore_n (k := 3) rfl (by decide +kernel), zg_istore _⟩, ⟨zs_jump rfl, zg_jump _⟩, trivial⟩,
  ⟨⟨zs_iload_n (k := 3) rfl (by decide +kernel), zg_iload _⟩, ⟨zs_aload_n (k := 0) rfl (by decide +kernel), zg_aload _⟩, ⟨zs_getI (ci := 4) (k := 1) (C := RX4) (T := TX4) (N := 2) rfl (by decide) (Or.inl rfl) wd_206 (by decide +kernel), zg_getI _ _⟩, ⟨zs_cge (off := 39) (q := 48) (by decide +kernel) rfl (by decide), zg_cge _⟩, ⟨zs_iload_n (k := 3) rfl (by decide +kernel), zg_iload _⟩, ⟨zs_bipush (n := 6) (by decide +kernel) (by decide), zg_push _⟩, ⟨zs_cge (off := 33) (q := 48) (by decide +kernel) rfl (by decide), zg_cge _⟩, ⟨zs_lload_n (k := 1) rfl (by decide +kernel), zg_lload _⟩, ⟨zs_aload_n (k := 0) rfl (by decide +kernel), zg_aload _⟩, ⟨zs_getR (ci := 4) (k := 0) (C := RX4) (T := TX4) (N := 2) rfl (by decide) rfl wd_205 (by decide +kernel), zg_getR _ _⟩, ⟨zs_iload_n (k := 3) rfl (by decide +kernel), zg_iload _⟩, ⟨zs_lald (by decide +kernel), zg_lald⟩, ⟨zs_land (by decide +kernel), zg_lbin _⟩, ⟨zs_lconst (n := 0) (by decide +kernel) (by decide), zg_push _⟩, ⟨zs_lcmp (by decide +kernel), zg_lcmp⟩, ⟨zs_zeq (off := 5) (q := 33) (by decide +kernel) rfl (by decide), zg_zeq _⟩, ⟨zs_iconst (n := 1) (by decide +kernel) (by decide), zg_push _⟩, ⟨zs_zret (by decide +kernel) rfl, zg_zret⟩, trivial⟩,
  ⟨⟨zs_lload_n (k := 1) rfl (by decide +kernel), zg_lload _⟩, ⟨zs_aload_n (k := 0) rfl (by decide +kernel), zg_aload _⟩, ⟨zs_getR (ci := 4) (k := 0) (C := RX4) (T := TX4) (N := 2) rfl (by decide) rfl wd_205 (by decide +kernel), zg_getR _ _⟩, ⟨zs_iload_n (k := 3) rfl (by decide +kernel), zg_iload _⟩, ⟨zs_lald (by decide +kernel), zg_lald⟩, ⟨zs_lor (by decide +kernel), zg_lbin _⟩, ⟨zs_lstore_n (k := 1) rfl (by decide +kernel), zg_lstore _⟩, ⟨zs_iinc (n := 1) (by decide +kernel) (by decide), zg_iinc _ _⟩, ⟨zs_goto (off := (-41)) (q := 4) (by decide +kernel) rfl (by decide), zg_jump _⟩, trivial⟩,
  ⟨⟨zs_iconst (n := 0) (by decide +kernel) (by decide), zg_push _⟩, ⟨zs_zret (by decide +kernel) rfl, zg_zret⟩, trivial⟩, trivial⟩
-- NeverTogether$Moment.sounding()J
def tb_66 : List zz_B := [[(1, zi_push (.long 0)), (1, zi_lstore 1), (1, zi_push (.int 0)), (1, zi_istore 3), (0, zi_jump 1)],
  [(1, zi_iload 3), (1, zi_aload 0), (3, zi_getI 4 1), (3, zi_cge 2), (1, zi_iload 3), (2, zi_push (.int 6)), (3, zi_cge 2), (1, zi_lload 1), (1, zi_aload 0), (3, zi_getR 4 0), (1, zi_iload 3), (1, zi_lald), (1, zi_lbin (fun x y => x ||| y)), (1, zi_lstore 1), (3, zi_iinc 3 1), (3, zi_jump 1)],
  [(1, zi_lload 1), (1, zi_lret)]]
def pc_66 : List Nat := [0, 4, 33]
set_option maxRecDepth 20000 in
theorem sa_66 : zz_SA zz_mt RX4 yX4_sounding cX4_sounding (some .long) 4 pc_66 pc_66 tb_66 := ⟨⟨⟨zs_lconst (n := 0) (by decide +kernel) (by decide), zg_push _⟩, ⟨zs_lstore_n (k := 1) rfl (by decide +kernel), zg_lstore _⟩, ⟨zs_iconst (n := 0) (by decide +kernel) (by decide), zg_push _⟩, ⟨zs_istore_n (k := 3) rfl (by decide +kernel), zg_istore _⟩, ⟨zs_jump rfl, zg_jump _⟩, trivial⟩,
  ⟨⟨zs_iload_n (k := 3) rfl (by decide +kernel), zg_iload _⟩, ⟨zs_aload_n (k := 0) rfl (by decide +kernel), zg_aload _⟩, ⟨zs_getI (ci := 4) (k := 1) (C := RX4) (T := TX4) (N := 2) rfl (by decide) (Or.inl rfl) wd_206 (by decide +kernel), zg_getI _ _⟩, ⟨zs_cge (off := 24) (q := 33) (by decide +kernel) rfl (by decide), zg_cge _⟩, ⟨zs_iload_n (k := 3) rfl (by decide +kernel), zg_iload _⟩, ⟨zs_bipush (n := 6) (by decide +kernel) (by decide), zg_push _⟩, ⟨zs_cge (off := 18) (q := 33) (by decide +kernel) rfl (by decide), zg_cge _⟩, ⟨zs_lload_n (k := 1) rfl (by decide +kernel), zg_lload _⟩, ⟨zs_aload_n (k := 0) rfl (by decide +kernel), zg_aload _⟩, ⟨zs_getR (ci := 4) (k := 0) (C := RX4) (T := TX4) (N := 2) rfl (by decide) rfl wd_205 (by decide +kernel), zg_getR _ _⟩, ⟨zs_iload_n (k := 3) rfl (by decide +kernel), zg_iload _⟩, ⟨zs_lald (by decide +kernel), zg_lald⟩, ⟨zs_lor (by decide +kernel), zg_lbin _⟩, ⟨zs_lstore_n (k := 1) rfl (by decide +kernel), zg_lstore _⟩, ⟨zs_iinc (n := 1) (by decide +kernel) (by decide), zg_iinc _ _⟩, ⟨zs_goto (off := (-26)) (q := 4) (by decide +kernel) rfl (by decide), zg_jump _⟩, trivial⟩,
  ⟨⟨zs_lload_n (k := 1) rfl (by decide +kernel), zg_lload _⟩, ⟨zs_lret (by decide +kernel) rfl, zg_lret⟩, trivial⟩, trivial⟩
-- NeverTogether$Moment.companyOf(I)I
def tb_67 : List zz_B := [[(1, zi_push (.int 0)), (1, zi_istore 2), (1, zi_push (.int 0)), (1, zi_istore 3), (0, zi_jump 1)],
  [(1, zi_iload 3), (1, zi_aload 0), (3, zi_getI 4 1), (3, zi_cge 4), (1, zi_iload 3), (1, zi_iload 1), (3, zi_ceq 3), (1, zi_aload 0), (1, zi_iload 1), (1, zi_iload 3), (3, zi_callV 4 63 3 2)],
  [(3, zi_zeq 3), (3, zi_iinc 2 1), (0, zi_jump 3)],
  [(3, zi_iinc 3 1), (3, zi_jump 1)],
  [(1, zi_iload 2), (1, zi_iret)]]
def pc_67 : List Nat := [0, 4, 23, 29, 35]
set_option maxRecDepth 20000 in
theorem sa_67 : zz_SA zz_mt RX4 yX4_companyOf cX4_companyOf (some .int) 4 pc_67 pc_67 tb_67 := ⟨⟨⟨zs_iconst (n := 0) (by decide +kernel) (by decide), zg_push _⟩, ⟨zs_istore_n (k := 2) rfl (by decide +kernel), zg_istore _⟩, ⟨zs_iconst (n := 0) (by decide +kernel) (by decide), zg_push _⟩, ⟨zs_istore_n (k := 3) rfl (by decide +kernel), zg_istore _⟩, ⟨zs_jump rfl, zg_jump _⟩, trivial⟩,
  ⟨⟨zs_iload_n (k := 3) rfl (by decide +kernel), zg_iload _⟩, ⟨zs_aload_n (k := 0) rfl (by decide +kernel), zg_aload _⟩, ⟨zs_getI (ci := 4) (k := 1) (C := RX4) (T := TX4) (N := 2) rfl (by decide) (Or.inl rfl) wd_206 (by decide +kernel), zg_getI _ _⟩, ⟨zs_cge (off := 26) (q := 35) (by decide +kernel) rfl (by decide), zg_cge _⟩, ⟨zs_iload_n (k := 3) rfl (by decide +kernel), zg_iload _⟩, ⟨zs_iload_n (k := 1) rfl (by decide +kernel), zg_iload _⟩, ⟨zs_ceq (off := 15) (q := 29) (by decide +kernel) rfl (by decide), zg_ceq _⟩, ⟨zs_aload_n (k := 0) rfl (by decide +kernel), zg_aload _⟩, ⟨zs_iload_n (k := 1) rfl (by decide +kernel), zg_iload _⟩, ⟨zs_iload_n (k := 3) rfl (by decide +kernel), zg_iload _⟩, ⟨zs_callV (ci := 4) (C := RX4) (T := TX4) (N := 2) (n := 2) rfl mk_63 rfl ⟨rfl, rfl⟩ ck_63 wd_569 wd_571 wd_9 rfl (by decide +kernel), zg_callV _ _ _ _⟩, trivial⟩,
  ⟨⟨zs_zeq (off := 6) (q := 29) (by decide +kernel) rfl (by decide), zg_zeq _⟩, ⟨zs_iinc (n := 1) (by decide +kernel) (by decide), zg_iinc _ _⟩, ⟨zs_jump rfl, zg_jump _⟩, trivial⟩,
  ⟨⟨zs_iinc (n := 1) (by decide +kernel) (by decide), zg_iinc _ _⟩, ⟨zs_goto (off := (-28)) (q := 4) (by decide +kernel) rfl (by decide), zg_jump _⟩, trivial⟩,
  ⟨⟨zs_iload_n (k := 2) rfl (by decide +kernel), zg_iload _⟩, ⟨zs_iret (by decide +kernel) rfl, zg_iret⟩, trivial⟩, trivial⟩
-- NeverTogether$Moment.pairs()I
def tb_68 : List zz_B := [[(1, zi_push (.int 0)), (1, zi_istore 1), (1, zi_push (.int 0)), (1, zi_istore 2), (0, zi_jump 1)],
  [(1, zi_iload 2), (1, zi_aload 0), (3, zi_getI 4 1), (3, zi_cge 3), (1, zi_iload 1), (1, zi_aload 0), (1, zi_iload 2), (3, zi_callV 4 67 2 2)],
  [(1, zi_ibin (fun x y => x + y)), (1, zi_istore 1), (3, zi_iinc 2 1), (3, zi_jump 1)],
  [(1, zi_iload 1), (1, zi_push (.int 2)), (1, zi_idiv (fun x y => x / y)), (1, zi_iret)]]
def pc_68 : List Nat := [0, 4, 18, 26]
set_option maxRecDepth 20000 in
theorem sa_68 : zz_SA zz_mt RX4 yX4_pairs cX4_pairs (some .int) 3 pc_68 pc_68 tb_68 := ⟨⟨⟨zs_iconst (n := 0) (by decide +kernel) (by decide), zg_push _⟩, ⟨zs_istore_n (k := 1) rfl (by decide +kernel), zg_istore _⟩, ⟨zs_iconst (n := 0) (by decide +kernel) (by decide), zg_push _⟩, ⟨zs_istore_n (k := 2) rfl (by decide +kernel), zg_istore _⟩, ⟨zs_jump rfl, zg_jump _⟩, trivial⟩,
  ⟨⟨zs_iload_n (k := 2) rfl (by decide +kernel), zg_iload _⟩, ⟨zs_aload_n (k := 0) rfl (by decide +kernel), zg_aload _⟩, ⟨zs_getI (ci := 4) (k := 1) (C := RX4) (T := TX4) (N := 2) rfl (by decide) (Or.inl rfl) wd_206 (by decide +kernel), zg_getI _ _⟩, ⟨zs_cge (off := 17) (q := 26) (by decide +kernel) rfl (by decide), zg_cge _⟩, ⟨zs_iload_n (k := 1) rfl (by decide +kernel), zg_iload _⟩, ⟨zs_aload_n (k := 0) rfl (by decide +kernel), zg_aload _⟩, ⟨zs_iload_n (k := 2) rfl (by decide +kernel), zg_iload _⟩, ⟨zs_callV (ci := 4) (C := RX4) (T := TX4) (N := 2) (n := 1) rfl mk_67 rfl ⟨rfl, rfl⟩ ck_67 wd_606 wd_566 wd_567 rfl (by decide +kernel), zg_callV _ _ _ _⟩, trivial⟩,
  ⟨⟨zs_iadd (by decide +kernel), zg_ibin _⟩, ⟨zs_istore_n (k := 1) rfl (by decide +kernel), zg_istore _⟩, ⟨zs_iinc (n := 1) (by decide +kernel) (by decide), zg_iinc _ _⟩, ⟨zs_goto (off := (-19)) (q := 4) (by decide +kernel) rfl (by decide), zg_jump _⟩, trivial⟩,
  ⟨⟨zs_iload_n (k := 1) rfl (by decide +kernel), zg_iload _⟩, ⟨zs_iconst (n := 2) (by decide +kernel) (by decide), zg_push _⟩, ⟨zs_idiv (by decide +kernel), zg_idiv _⟩, ⟨zs_iret (by decide +kernel) rfl, zg_iret⟩, trivial⟩, trivial⟩
-- NeverTogether$Moment.whoMeets()I
def tb_69 : List zz_B := [[(1, zi_push (.int 0)), (1, zi_istore 1), (1, zi_push (.int 0)), (1, zi_istore 2), (0, zi_jump 1)],
  [(1, zi_iload 2), (1, zi_aload 0), (3, zi_getI 4 1), (3, zi_cge 4), (1, zi_aload 0), (1, zi_iload 2), (3, zi_callV 4 67 2 2)],
  [(3, zi_zle 3), (1, zi_iload 1), (1, zi_push (.int 1)), (1, zi_iload 2), (1, zi_ibin (fun x y => x <<< (y &&& 31))), (1, zi_ibin (fun x y => x ||| y)), (1, zi_istore 1), (0, zi_jump 3)],
  [(3, zi_iinc 2 1), (3, zi_jump 1)],
  [(1, zi_iload 1), (1, zi_iret)]]
def pc_69 : List Nat := [0, 4, 17, 26, 32]
set_option maxRecDepth 20000 in
theorem sa_69 : zz_SA zz_mt RX4 yX4_whoMeets cX4_whoMeets (some .int) 3 pc_69 pc_69 tb_69 := ⟨⟨⟨zs_iconst (n := 0) (by decide +kernel) (by decide), zg_push _⟩, ⟨zs_istore_n (k := 1) rfl (by decide +kernel), zg_istore _⟩, ⟨zs_iconst (n := 0) (by decide +kernel) (by decide), zg_push _⟩, ⟨zs_istore_n (k := 2) rfl (by decide +kernel), zg_istore _⟩, ⟨zs_jump rfl, zg_jump _⟩, trivial⟩,
  ⟨⟨zs_iload_n (k := 2) rfl (by decide +kernel), zg_iload _⟩, ⟨zs_aload_n (k := 0) rfl (by decide +kernel), zg_aload _⟩, ⟨zs_getI (ci := 4) (k := 1) (C := RX4) (T := TX4) (N := 2) rfl (by decide) (Or.inl rfl) wd_206 (by decide +kernel), zg_getI _ _⟩, ⟨zs_cge (off := 23) (q := 32) (by decide +kernel) rfl (by decide), zg_cge _⟩, ⟨zs_aload_n (k := 0) rfl (by decide +kernel), zg_aload _⟩, ⟨zs_iload_n (k := 2) rfl (by decide +kernel), zg_iload _⟩, ⟨zs_callV (ci := 4) (C := RX4) (T := TX4) (N := 2) (n := 1) rfl mk_67 rfl ⟨rfl, rfl⟩ ck_67 wd_606 wd_566 wd_567 rfl (by decide +kernel), zg_callV _ _ _ _⟩, trivial⟩,
  ⟨⟨zs_zle (off := 9) (q := 26) (by decide +kernel) rfl (by decide), zg_zle _⟩, ⟨zs_iload_n (k := 1) rfl (by decide +kernel), zg_iload _⟩, ⟨zs_iconst (n := 1) (by decide +kernel) (by decide), zg_push _⟩, ⟨zs_iload_n (k := 2) rfl (by decide +kernel), zg_iload _⟩, ⟨zs_ishl (by decide +kernel), zg_ibin _⟩, ⟨zs_ior (by decide +kernel), zg_ibin _⟩, ⟨zs_istore_n (k := 1) rfl (by decide +kernel), zg_istore _⟩, ⟨zs_jump rfl, zg_jump _⟩, trivial⟩,
  ⟨⟨zs_iinc (n := 1) (by decide +kernel) (by decide), zg_iinc _ _⟩, ⟨zs_goto (off := (-25)) (q := 4) (by decide +kernel) rfl (by decide), zg_jump _⟩, trivial⟩,
  ⟨⟨zs_iload_n (k := 1) rfl (by decide +kernel), zg_iload _⟩, ⟨zs_iret (by decide +kernel) rfl, zg_iret⟩, trivial⟩, trivial⟩
-- NeverTogether$Moment.leastPair()I
def tb_70 : List zz_B := [[(1, zi_push (.int 0)), (1, zi_istore 1), (0, zi_jump 1)],
  [(1, zi_iload 1), (1, zi_aload 0), (3, zi_getI 4 1), (3, zi_cge 6), (1, zi_iload 1), (1, zi_push (.int 1)), (1, zi_ibin (fun x y => x + y)), (1, zi_istore 2), (0, zi_jump 2)],
  [(1, zi_iload 2), (1, zi_aload 0), (3, zi_getI 4 1), (3, zi_cge 5), (1, zi_aload 0), (1, zi_iload 1), (1, zi_iload 2), (3, zi_callV 4 63 3 3)],
  [(3, zi_zeq 4), (2, zi_push (.int 6)), (1, zi_iload 1), (1, zi_ibin (fun x y => x * y)), (1, zi_iload 2), (1, zi_ibin (fun x y => x + y)), (1, zi_iret)],
  [(3, zi_iinc 2 1), (3, zi_jump 2)],
  [(3, zi_iinc 1 1), (3, zi_jump 1)],
  [(2, zi_push (.int (-9))), (1, zi_iret)]]
def pc_70 : List Nat := [0, 2, 14, 28, 38, 44, 50]
set_option maxRecDepth 20000 in
theorem sa_70 : zz_SA zz_mt RX4 yX4_leastPair cX4_leastPair (some .int) 3 pc_70 pc_70 tb_70 := ⟨⟨⟨zs_iconst (n := 0) (by decide +kernel) (by decide), zg_push _⟩, ⟨zs_istore_n (k := 1) rfl (by decide +kernel), zg_istore _⟩, ⟨zs_jump rfl, zg_jump _⟩, trivial⟩,
  ⟨⟨zs_iload_n (k := 1) rfl (by decide +kernel), zg_iload _⟩, ⟨zs_aload_n (k := 0) rfl (by decide +kernel), zg_aload _⟩, ⟨zs_getI (ci := 4) (k := 1) (C := RX4) (T := TX4) (N := 2) rfl (by decide) (Or.inl rfl) wd_206 (by decide +kernel), zg_getI _ _⟩, ⟨zs_cge (off := 43) (q := 50) (by decide +kernel) rfl (by decide), zg_cge _⟩, ⟨zs_iload_n (k := 1) rfl (by decide +kernel), zg_iload _⟩, ⟨zs_iconst (n := 1) (by decide +kernel) (by decide), zg_push _⟩, ⟨zs_iadd (by decide +kernel), zg_ibin _⟩, ⟨zs_istore_n (k := 2) rfl (by decide +kernel), zg_istore _⟩, ⟨zs_jump rfl, zg_jump _⟩, trivial⟩,
  ⟨⟨zs_iload_n (k := 2) rfl (by decide +kernel), zg_iload _⟩, ⟨zs_aload_n (k := 0) rfl (by decide +kernel), zg_aload _⟩, ⟨zs_getI (ci := 4) (k := 1) (C := RX4) (T := TX4) (N := 2) rfl (by decide) (Or.inl rfl) wd_206 (by decide +kernel), zg_getI _ _⟩, ⟨zs_cge (off := 25) (q := 44) (by decide +kernel) rfl (by decide), zg_cge _⟩, ⟨zs_aload_n (k := 0) rfl (by decide +kernel), zg_aload _⟩, ⟨zs_iload_n (k := 1) rfl (by decide +kernel), zg_iload _⟩, ⟨zs_iload_n (k := 2) rfl (by decide +kernel), zg_iload _⟩, ⟨zs_callV (ci := 4) (C := RX4) (T := TX4) (N := 2) (n := 2) rfl mk_63 rfl ⟨rfl, rfl⟩ ck_63 wd_569 wd_571 wd_9 rfl (by decide +kernel), zg_callV _ _ _ _⟩, trivial⟩,
  ⟨⟨zs_zeq (off := 10) (q := 38) (by decide +kernel) rfl (by decide), zg_zeq _⟩, ⟨zs_bipush (n := 6) (by decide +kernel) (by decide), zg_push _⟩, ⟨zs_iload_n (k := 1) rfl (by decide +kernel), zg_iload _⟩, ⟨zs_imul (by decide +kernel), zg_ibin _⟩, ⟨zs_iload_n (k := 2) rfl (by decide +kernel), zg_iload _⟩, ⟨zs_iadd (by decide +kernel), zg_ibin _⟩, ⟨zs_iret (by decide +kernel) rfl, zg_iret⟩, trivial⟩,
  ⟨⟨zs_iinc (n := 1) (by decide +kernel) (by decide), zg_iinc _ _⟩, ⟨zs_goto (off := (-27)) (q := 14) (by decide +kernel) rfl (by decide), zg_jump _⟩, trivial⟩,
  ⟨⟨zs_iinc (n := 1) (by decide +kernel) (by decide), zg_iinc _ _⟩, ⟨zs_goto (off := (-45)) (q := 2) (by decide +kernel) rfl (by decide), zg_jump _⟩, trivial⟩,
  ⟨⟨zs_bipush (n := (-9)) (by decide +kernel) (by decide), zg_push _⟩, ⟨zs_iret (by decide +kernel) rfl, zg_iret⟩, trivial⟩, trivial⟩
-- NeverTogether$Moment.shift(II)V
def tb_71 : List zz_B := [[(1, zi_aload 0), (1, zi_iload 1), (3, zi_callV 4 64 2 1)],
  [(3, zi_zeq 4), (1, zi_aload 0), (3, zi_getR 4 0), (1, zi_iload 1), (1, zi_aload 0), (3, zi_getR 4 0), (1, zi_iload 1), (1, zi_lald), (1, zi_iload 2), (3, zi_callS 153 1 2)],
  [(3, zi_callS 155 2 3)],
  [(1, zi_last), (0, zi_jump 4)],
  [(1, zi_vret)]]
def pc_71 : List Nat := [0, 5, 23, 26, 27]
set_option maxRecDepth 20000 in
theorem sa_71 : zz_SA zz_mt RX4 yX4_shift cX4_shift none 3 pc_71 pc_71 tb_71 := ⟨⟨⟨zs_aload_n (k := 0) rfl (by decide +kernel), zg_aload _⟩, ⟨zs_iload_n (k := 1) rfl (by decide +kernel), zg_iload _⟩, ⟨zs_callV (ci := 4) (C := RX4) (T := TX4) (N := 2) (n := 1) rfl mk_64 rfl ⟨rfl, rfl⟩ ck_64 wd_573 wd_575 wd_10 rfl (by decide +kernel), zg_callV _ _ _ _⟩, trivial⟩,
  ⟨⟨zs_zeq (off := 22) (q := 27) (by decide +kernel) rfl (by decide), zg_zeq _⟩, ⟨zs_aload_n (k := 0) rfl (by decide +kernel), zg_aload _⟩, ⟨zs_getR (ci := 4) (k := 0) (C := RX4) (T := TX4) (N := 2) rfl (by decide) rfl wd_205 (by decide +kernel), zg_getR _ _⟩, ⟨zs_iload_n (k := 1) rfl (by decide +kernel), zg_iload _⟩, ⟨zs_aload_n (k := 0) rfl (by decide +kernel), zg_aload _⟩, ⟨zs_getR (ci := 4) (k := 0) (C := RX4) (T := TX4) (N := 2) rfl (by decide) rfl wd_205 (by decide +kernel), zg_getR _ _⟩, ⟨zs_iload_n (k := 1) rfl (by decide +kernel), zg_iload _⟩, ⟨zs_lald (by decide +kernel), zg_lald⟩, ⟨zs_iload_n (k := 2) rfl (by decide +kernel), zg_iload _⟩, ⟨zs_callSN (n := 1) mk_153 ⟨rfl, rfl⟩ ck_153 wn_869 wd_486 wd_69 rfl (by decide +kernel), zg_callS _ _ _⟩, trivial⟩,
  ⟨⟨zs_callSN (n := 2) mk_155 ⟨rfl, rfl⟩ ck_155 wn_870 wd_562 wd_69 rfl (by decide +kernel), zg_callS _ _ _⟩, trivial⟩,
  ⟨⟨zs_last (by decide +kernel), zg_last⟩, ⟨zs_jump rfl, zg_jump _⟩, trivial⟩,
  ⟨⟨zs_vret (by decide +kernel) rfl, zg_vret⟩, trivial⟩, trivial⟩
