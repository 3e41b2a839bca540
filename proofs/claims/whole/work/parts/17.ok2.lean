theorem o_34_9 : ax_Ok 34 14 (ax_aload 0 10) := ok_aload_n rfl dX4_openBranch_14 rfl
theorem o_34_10 : ax_Ok 34 15 (ax_get 4 1 11) := ok_get (C := RX4) (T := TX4) (N := 4) rfl in_X4 (by decide) wd_51 rfl dX4_openBranch_15 rfl
theorem o_34_11 : ax_Ok 34 18 (ax_aload 0 12) := ok_aload_n rfl dX4_openBranch_18 rfl
theorem o_34_12 : ax_Ok 34 19 (ax_get 4 2 13) := ok_get (C := RX4) (T := TX4) (N := 4) rfl in_X4 (by decide) wd_52 rfl dX4_openBranch_19 rfl
theorem o_34_13 : ax_Ok 34 22 (ax_ald 0 14) := ok_iald dX4_openBranch_22 rfl
theorem o_34_14 : ax_Ok 34 23 (ax_iload 2 15) := ok_iload_n rfl dX4_openBranch_23 rfl
theorem o_34_15 : ax_Ok 34 24 (ax_bin (fun x y => x &&& y) 16) := ok_iand dX4_openBranch_24 rfl
theorem o_34_16 : ax_Ok 34 25 (ax_if (fun x => decide (x = 0)) 19 17) := ok_if_eq dX4_openBranch_25 (by decide) rfl
theorem o_34_17 : ax_Ok 34 28 (ax_const 0 18) := ok_iconst (by decide) dX4_openBranch_28 rfl
theorem o_34_18 : ax_Ok 34 29 (ax_ret 1) := ok_ret1 rfl dX4_openBranch_29
theorem o_34_19 : ax_Ok 34 30 (ax_aload 0 20) := ok_aload_n rfl dX4_openBranch_30 rfl
theorem o_34_20 : ax_Ok 34 31 (ax_get 4 1 21) := ok_get (C := RX4) (T := TX4) (N := 4) rfl in_X4 (by decide) wd_51 rfl dX4_openBranch_31 rfl
theorem o_34_21 : ax_Ok 34 34 (ax_aload 0 22) := ok_aload_n rfl dX4_openBranch_34 rfl
theorem o_34_22 : ax_Ok 34 35 (ax_get 4 2 23) := ok_get (C := RX4) (T := TX4) (N := 4) rfl in_X4 (by decide) wd_52 rfl dX4_openBranch_35 rfl
theorem o_34_23 : ax_Ok 34 38 (ax_dup2 24) := ok_dup2 dX4_openBranch_38 rfl
theorem o_34_24 : ax_Ok 34 39 (ax_ald 0 25) := ok_iald dX4_openBranch_39 rfl
theorem o_34_25 : ax_Ok 34 40 (ax_iload 2 26) := ok_iload_n rfl dX4_openBranch_40 rfl
theorem o_34_26 : ax_Ok 34 41 (ax_bin (fun x y => x ||| y) 27) := ok_ior dX4_openBranch_41 rfl
theorem o_34_27 : ax_Ok 34 42 (ax_ast 0 28) := ok_iast dX4_openBranch_42 rfl
theorem o_34_28 : ax_Ok 34 43 (ax_aload 0 29) := ok_aload_n rfl dX4_openBranch_43 rfl
theorem o_34_29 : ax_Ok 34 44 (ax_aload 0 30) := ok_aload_n rfl dX4_openBranch_44 rfl
theorem o_34_30 : ax_Ok 34 45 (ax_get 4 0 31) := ok_get (C := RX4) (T := TX4) (N := 4) rfl in_X4 (by decide) wd_50 rfl dX4_openBranch_45 rfl
theorem o_34_31 : ax_Ok 34 48 (ax_aload 0 32) := ok_aload_n rfl dX4_openBranch_48 rfl
theorem o_34_32 : ax_Ok 34 49 (ax_get 4 2 33) := ok_get (C := RX4) (T := TX4) (N := 4) rfl in_X4 (by decide) wd_52 rfl dX4_openBranch_49 rfl
theorem o_34_33 : ax_Ok 34 52 (ax_ald 0 34) := ok_iald dX4_openBranch_52 rfl
theorem o_34_34 : ax_Ok 34 53 (ax_put 4 3 0 35) := ok_put (C := RX4) (T := TX4) (N := 4) rfl in_X4 tyX4 tyX4_ok nmX4 (by decide) wd_53 rfl rfl rfl dX4_openBranch_53 rfl
theorem o_34_35 : ax_Ok 34 56 (ax_const 1 36) := ok_iconst (by decide) dX4_openBranch_56 rfl
theorem o_34_36 : ax_Ok 34 57 (ax_ret 1) := ok_ret1 rfl dX4_openBranch_57
theorem o_35_0 : ax_Ok 35 0 (ax_const 1 1) := ok_iconst (by decide) dX4_isLoopAroundMessage_0 rfl
theorem o_35_1 : ax_Ok 35 1 (ax_iload 1 2) := ok_iload_n rfl dX4_isLoopAroundMessage_1 rfl
theorem o_35_2 : ax_Ok 35 2 (ax_const 88 3) := ok_bipush (by decide) dX4_isLoopAroundMessage_2 rfl
theorem o_35_3 : ax_Ok 35 4 (ax_bin (fun x y => x - y) 4) := ok_isub dX4_isLoopAroundMessage_4 rfl
theorem o_35_4 : ax_Ok 35 5 (ax_bin (fun x y => x <<< (y &&& 31)) 5) := ok_ishl dX4_isLoopAroundMessage_5 rfl
theorem o_35_5 : ax_Ok 35 6 (ax_istore 2 6) := ok_istore_n rfl (by decide) dX4_isLoopAroundMessage_6 rfl
theorem o_35_6 : ax_Ok 35 7 (ax_aload 0 7) := ok_aload_n rfl dX4_isLoopAroundMessage_7 rfl
theorem o_35_7 : ax_Ok 35 8 (ax_callV 4 36 0 8) := ok_callV (C := RX4) rfl rfl wd_220 wd_222 wp_8 wd_4 mo_36 (by decide) dX4_isLoopAroundMessage_8 rfl
theorem o_35_8 : ax_Ok 35 11 (ax_if (fun x => decide (x = 0)) 19 9) := ok_if_eq dX4_isLoopAroundMessage_11 (by decide) rfl
theorem o_35_9 : ax_Ok 35 14 (ax_aload 0 10) := ok_aload_n rfl dX4_isLoopAroundMessage_14 rfl
theorem o_35_10 : ax_Ok 35 15 (ax_get 4 0 11) := ok_get (C := RX4) (T := TX4) (N := 4) rfl in_X4 (by decide) wd_50 rfl dX4_isLoopAroundMessage_15 rfl
theorem o_35_11 : ax_Ok 35 18 (ax_aload 0 12) := ok_aload_n rfl dX4_isLoopAroundMessage_18 rfl
theorem o_35_12 : ax_Ok 35 19 (ax_get 4 2 13) := ok_get (C := RX4) (T := TX4) (N := 4) rfl in_X4 (by decide) wd_52 rfl dX4_isLoopAroundMessage_19 rfl
theorem o_35_13 : ax_Ok 35 22 (ax_ald 0 14) := ok_iald dX4_isLoopAroundMessage_22 rfl
theorem o_35_14 : ax_Ok 35 23 (ax_iload 2 15) := ok_iload_n rfl dX4_isLoopAroundMessage_23 rfl
theorem o_35_15 : ax_Ok 35 24 (ax_bin (fun x y => x &&& y) 16) := ok_iand dX4_isLoopAroundMessage_24 rfl
theorem o_35_16 : ax_Ok 35 25 (ax_if (fun x => decide (x = 0)) 19 17) := ok_if_eq dX4_isLoopAroundMessage_25 (by decide) rfl
theorem o_35_17 : ax_Ok 35 28 (ax_const 1 18) := ok_iconst (by decide) dX4_isLoopAroundMessage_28 rfl
theorem o_35_18 : ax_Ok 35 29 (ax_goto 20) := ok_goto dX4_isLoopAroundMessage_29 (by decide)
theorem o_35_19 : ax_Ok 35 32 (ax_const 0 20) := ok_iconst (by decide) dX4_isLoopAroundMessage_32 rfl
theorem o_35_20 : ax_Ok 35 33 (ax_ret 1) := ok_ret1 rfl dX4_isLoopAroundMessage_33
theorem o_36_0 : ax_Ok 36 0 (ax_aload 0 1) := ok_aload_n rfl dX4_isInBounds_0 rfl
theorem o_36_1 : ax_Ok 36 1 (ax_get 4 2 2) := ok_get (C := RX4) (T := TX4) (N := 4) rfl in_X4 (by decide) wd_52 rfl dX4_isInBounds_1 rfl
theorem o_36_2 : ax_Ok 36 4 (ax_if (fun x => decide (x < 0)) 9 3) := ok_if_lt dX4_isInBounds_4 (by decide) rfl
theorem o_36_3 : ax_Ok 36 7 (ax_aload 0 4) := ok_aload_n rfl dX4_isInBounds_7 rfl
theorem o_36_4 : ax_Ok 36 8 (ax_get 4 2 5) := ok_get (C := RX4) (T := TX4) (N := 4) rfl in_X4 (by decide) wd_52 rfl dX4_isInBounds_8 rfl
theorem o_36_5 : ax_Ok 36 11 (ax_const 60 6) := ok_bipush (by decide) dX4_isInBounds_11 rfl
theorem o_36_6 : ax_Ok 36 13 (ax_icmp (fun x y => decide (y ≤ x)) 9 7) := ok_icmp_ge dX4_isInBounds_13 (by decide) rfl
theorem o_36_7 : ax_Ok 36 16 (ax_const 1 8) := ok_iconst (by decide) dX4_isInBounds_16 rfl
theorem o_36_8 : ax_Ok 36 17 (ax_goto 10) := ok_goto dX4_isInBounds_17 (by decide)
theorem o_36_9 : ax_Ok 36 20 (ax_const 0 10) := ok_iconst (by decide) dX4_isInBounds_20 rfl
theorem o_36_10 : ax_Ok 36 21 (ax_ret 1) := ok_ret1 rfl dX4_isInBounds_21
theorem o_37_0 : ax_Ok 37 0 (ax_aload 0 1) := ok_aload_n rfl dX5_init_0 rfl
theorem o_37_1 : ax_Ok 37 1 (ax_obj 2) := ok_obj wd_22 wd_15 wd_obj dX5_init_1 rfl
theorem o_37_2 : ax_Ok 37 4 (ax_aload 0 3) := ok_aload_n rfl dX5_init_4 rfl
theorem o_37_3 : ax_Ok 37 5 (ax_const 60 4) := ok_bipush (by decide) dX5_init_5 rfl
theorem o_37_4 : ax_Ok 37 7 (ax_newa 1 5) := ok_newa1 wd_30 dX5_init_7 rfl
theorem o_37_5 : ax_Ok 37 9 (ax_put 5 0 3 6) := ok_putF (C := RX5) (T := TX5) (N := 2) rfl in_X5 tyX5 tyX5_ok nmX5 (by decide) wd_23 rfl rfl rfl rfl rfl dX5_init_9 rfl
theorem o_37_6 : ax_Ok 37 12 (ax_aload 0 7) := ok_aload_n rfl dX5_init_12 rfl
theorem o_37_7 : ax_Ok 37 13 (ax_const 0 8) := ok_iconst (by decide) dX5_init_13 rfl
theorem o_37_8 : ax_Ok 37 14 (ax_put 5 1 0 9) := ok_put (C := RX5) (T := TX5) (N := 2) rfl in_X5 tyX5 tyX5_ok nmX5 (by decide) wd_24 rfl rfl rfl dX5_init_14 rfl
theorem o_37_9 : ax_Ok 37 17 (ax_retv) := ok_retv rfl dX5_init_17
theorem o_38_0 : ax_Ok 38 0 (ax_aload 0 1) := ok_aload_n rfl dX5_size_0 rfl
theorem o_38_1 : ax_Ok 38 1 (ax_get 5 1 2) := ok_get (C := RX5) (T := TX5) (N := 2) rfl in_X5 (by decide) wd_24 rfl dX5_size_1 rfl
theorem o_38_2 : ax_Ok 38 4 (ax_ret 0) := ok_ret0 rfl dX5_size_4
theorem o_39_0 : ax_Ok 39 0 (ax_iload 1 1) := ok_iload_n rfl dX5_get_0 rfl
theorem o_39_1 : ax_Ok 39 1 (ax_if (fun x => decide (x < 0)) 11 2) := ok_if_lt dX5_get_1 (by decide) rfl
theorem o_39_2 : ax_Ok 39 4 (ax_iload 1 3) := ok_iload_n rfl dX5_get_4 rfl
theorem o_39_3 : ax_Ok 39 5 (ax_aload 0 4) := ok_aload_n rfl dX5_get_5 rfl
theorem o_39_4 : ax_Ok 39 6 (ax_get 5 1 5) := ok_get (C := RX5) (T := TX5) (N := 2) rfl in_X5 (by decide) wd_24 rfl dX5_get_6 rfl
theorem o_39_5 : ax_Ok 39 9 (ax_icmp (fun x y => decide (y ≤ x)) 11 6) := ok_icmp_ge dX5_get_9 (by decide) rfl
theorem o_39_6 : ax_Ok 39 12 (ax_aload 0 7) := ok_aload_n rfl dX5_get_12 rfl
theorem o_39_7 : ax_Ok 39 13 (ax_get 5 0 8) := ok_get (C := RX5) (T := TX5) (N := 2) rfl in_X5 (by decide) wd_23 rfl dX5_get_13 rfl
theorem o_39_8 : ax_Ok 39 16 (ax_iload 1 9) := ok_iload_n rfl dX5_get_16 rfl
theorem o_39_9 : ax_Ok 39 17 (ax_ald 1 10) := ok_cald dX5_get_17 rfl
theorem o_39_10 : ax_Ok 39 18 (ax_goto 12) := ok_goto dX5_get_18 (by decide)
theorem o_39_11 : ax_Ok 39 21 (ax_const 0 12) := ok_iconst (by decide) dX5_get_21 rfl
theorem o_39_12 : ax_Ok 39 22 (ax_ret 2) := ok_ret2 rfl dX5_get_22
theorem o_40_0 : ax_Ok 40 0 (ax_aload 0 1) := ok_aload_n rfl dX5_append_0 rfl
theorem o_40_1 : ax_Ok 40 1 (ax_aload 0 2) := ok_aload_n rfl dX5_append_1 rfl
theorem o_40_2 : ax_Ok 40 2 (ax_get 5 1 3) := ok_get (C := RX5) (T := TX5) (N := 2) rfl in_X5 (by decide) wd_24 rfl dX5_append_2 rfl
theorem o_40_3 : ax_Ok 40 5 (ax_iload 1 4) := ok_iload_n rfl dX5_append_5 rfl
theorem o_40_4 : ax_Ok 40 6 (ax_callV 5 41 2 5) := ok_callV (C := RX5) rfl rfl wd_153 wd_154 wd_155 wd_2 mo_41 (by decide) dX5_append_6 rfl
theorem o_40_5 : ax_Ok 40 9 (ax_ret 1) := ok_ret1 rfl dX5_append_9
theorem o_41_0 : ax_Ok 41 0 (ax_aload 0 1) := ok_aload_n rfl dX5_insert_0 rfl
theorem o_41_1 : ax_Ok 41 1 (ax_get 5 1 2) := ok_get (C := RX5) (T := TX5) (N := 2) rfl in_X5 (by decide) wd_24 rfl dX5_insert_1 rfl
theorem o_41_2 : ax_Ok 41 4 (ax_const 60 3) := ok_bipush (by decide) dX5_insert_4 rfl
theorem o_41_3 : ax_Ok 41 6 (ax_icmp (fun x y => decide (y ≤ x)) 10 4) := ok_icmp_ge dX5_insert_6 (by decide) rfl
theorem o_41_4 : ax_Ok 41 9 (ax_iload 1 5) := ok_iload_n rfl dX5_insert_9 rfl
theorem o_41_5 : ax_Ok 41 10 (ax_if (fun x => decide (x < 0)) 10 6) := ok_if_lt dX5_insert_10 (by decide) rfl
theorem o_41_6 : ax_Ok 41 13 (ax_iload 1 7) := ok_iload_n rfl dX5_insert_13 rfl
theorem o_41_7 : ax_Ok 41 14 (ax_aload 0 8) := ok_aload_n rfl dX5_insert_14 rfl
theorem o_41_8 : ax_Ok 41 15 (ax_get 5 1 9) := ok_get (C := RX5) (T := TX5) (N := 2) rfl in_X5 (by decide) wd_24 rfl dX5_insert_15 rfl
theorem o_41_9 : ax_Ok 41 18 (ax_icmp (fun x y => decide (x ≤ y)) 12 10) := ok_icmp_le dX5_insert_18 (by decide) rfl
theorem o_41_10 : ax_Ok 41 21 (ax_const 0 11) := ok_iconst (by decide) dX5_insert_21 rfl
theorem o_41_11 : ax_Ok 41 22 (ax_ret 1) := ok_ret1 rfl dX5_insert_22
theorem o_41_12 : ax_Ok 41 23 (ax_aload 0 13) := ok_aload_n rfl dX5_insert_23 rfl
theorem o_41_13 : ax_Ok 41 24 (ax_get 5 1 14) := ok_get (C := RX5) (T := TX5) (N := 2) rfl in_X5 (by decide) wd_24 rfl dX5_insert_24 rfl
theorem o_41_14 : ax_Ok 41 27 (ax_istore 3 15) := ok_istore_n rfl (by decide) dX5_insert_27 rfl
theorem o_41_15 : ax_Ok 41 28 (ax_iload 3 16) := ok_iload_n rfl dX5_insert_28 rfl
theorem o_41_16 : ax_Ok 41 29 (ax_iload 1 17) := ok_iload_n rfl dX5_insert_29 rfl
theorem o_41_17 : ax_Ok 41 30 (ax_icmp (fun x y => decide (x ≤ y)) 30 18) := ok_icmp_le dX5_insert_30 (by decide) rfl
theorem o_41_18 : ax_Ok 41 33 (ax_aload 0 19) := ok_aload_n rfl dX5_insert_33 rfl
theorem o_41_19 : ax_Ok 41 34 (ax_get 5 0 20) := ok_get (C := RX5) (T := TX5) (N := 2) rfl in_X5 (by decide) wd_23 rfl dX5_insert_34 rfl
theorem o_41_20 : ax_Ok 41 37 (ax_iload 3 21) := ok_iload_n rfl dX5_insert_37 rfl
theorem o_41_21 : ax_Ok 41 38 (ax_aload 0 22) := ok_aload_n rfl dX5_insert_38 rfl
theorem o_41_22 : ax_Ok 41 39 (ax_get 5 0 23) := ok_get (C := RX5) (T := TX5) (N := 2) rfl in_X5 (by decide) wd_23 rfl dX5_insert_39 rfl
theorem o_41_23 : ax_Ok 41 42 (ax_iload 3 24) := ok_iload_n rfl dX5_insert_42 rfl
theorem o_41_24 : ax_Ok 41 43 (ax_const 1 25) := ok_iconst (by decide) dX5_insert_43 rfl
theorem o_41_25 : ax_Ok 41 44 (ax_bin (fun x y => x - y) 26) := ok_isub dX5_insert_44 rfl
theorem o_41_26 : ax_Ok 41 45 (ax_ald 1 27) := ok_cald dX5_insert_45 rfl
theorem o_41_27 : ax_Ok 41 46 (ax_ast 1 28) := ok_cast dX5_insert_46 rfl
theorem o_41_28 : ax_Ok 41 47 (ax_iinc 3 (-1) 29) := ok_iinc (by decide) (by decide) dX5_insert_47 rfl
theorem o_41_29 : ax_Ok 41 50 (ax_goto 15) := ok_goto dX5_insert_50 (by decide)
theorem o_41_30 : ax_Ok 41 53 (ax_aload 0 31) := ok_aload_n rfl dX5_insert_53 rfl
theorem o_41_31 : ax_Ok 41 54 (ax_get 5 0 32) := ok_get (C := RX5) (T := TX5) (N := 2) rfl in_X5 (by decide) wd_23 rfl dX5_insert_54 rfl
theorem o_41_32 : ax_Ok 41 57 (ax_iload 1 33) := ok_iload_n rfl dX5_insert_57 rfl
theorem o_41_33 : ax_Ok 41 58 (ax_iload 2 34) := ok_iload_n rfl dX5_insert_58 rfl
theorem o_41_34 : ax_Ok 41 59 (ax_ast 1 35) := ok_cast dX5_insert_59 rfl
theorem o_41_35 : ax_Ok 41 60 (ax_aload 0 36) := ok_aload_n rfl dX5_insert_60 rfl
theorem o_41_36 : ax_Ok 41 61 (ax_dup 37) := ok_dup dX5_insert_61 rfl
theorem o_41_37 : ax_Ok 41 62 (ax_get 5 1 38) := ok_get (C := RX5) (T := TX5) (N := 2) rfl in_X5 (by decide) wd_24 rfl dX5_insert_62 rfl
theorem o_41_38 : ax_Ok 41 65 (ax_const 1 39) := ok_iconst (by decide) dX5_insert_65 rfl
theorem o_41_39 : ax_Ok 41 66 (ax_bin (fun x y => x + y) 40) := ok_iadd dX5_insert_66 rfl
theorem o_41_40 : ax_Ok 41 67 (ax_put 5 1 0 41) := ok_put (C := RX5) (T := TX5) (N := 2) rfl in_X5 tyX5 tyX5_ok nmX5 (by decide) wd_24 rfl rfl rfl dX5_insert_67 rfl
theorem o_41_41 : ax_Ok 41 70 (ax_const 1 42) := ok_iconst (by decide) dX5_insert_70 rfl
theorem o_41_42 : ax_Ok 41 71 (ax_ret 1) := ok_ret1 rfl dX5_insert_71
theorem o_42_0 : ax_Ok 42 0 (ax_iload 1 1) := ok_iload_n rfl dX5_shorten_0 rfl
theorem o_42_1 : ax_Ok 42 1 (ax_if (fun x => decide (x < 0)) 9 2) := ok_if_lt dX5_shorten_1 (by decide) rfl
theorem o_42_2 : ax_Ok 42 4 (ax_iload 1 3) := ok_iload_n rfl dX5_shorten_4 rfl
theorem o_42_3 : ax_Ok 42 5 (ax_aload 0 4) := ok_aload_n rfl dX5_shorten_5 rfl
theorem o_42_4 : ax_Ok 42 6 (ax_get 5 1 5) := ok_get (C := RX5) (T := TX5) (N := 2) rfl in_X5 (by decide) wd_24 rfl dX5_shorten_6 rfl
theorem o_42_5 : ax_Ok 42 9 (ax_icmp (fun x y => decide (y ≤ x)) 9 6) := ok_icmp_ge dX5_shorten_9 (by decide) rfl
theorem o_42_6 : ax_Ok 42 12 (ax_aload 0 7) := ok_aload_n rfl dX5_shorten_12 rfl
theorem o_42_7 : ax_Ok 42 13 (ax_iload 1 8) := ok_iload_n rfl dX5_shorten_13 rfl
theorem o_42_8 : ax_Ok 42 14 (ax_put 5 1 0 9) := ok_put (C := RX5) (T := TX5) (N := 2) rfl in_X5 tyX5 tyX5_ok nmX5 (by decide) wd_24 rfl rfl rfl dX5_shorten_14 rfl
theorem o_42_9 : ax_Ok 42 17 (ax_retv) := ok_retv rfl dX5_shorten_17
theorem o_43_0 : ax_Ok 43 0 (ax_const 0 1) := ok_iconst (by decide) dX5_countOf_0 rfl
theorem o_43_1 : ax_Ok 43 1 (ax_istore 2 2) := ok_istore_n rfl (by decide) dX5_countOf_1 rfl
theorem o_43_2 : ax_Ok 43 2 (ax_const 0 3) := ok_iconst (by decide) dX5_countOf_2 rfl
theorem o_43_3 : ax_Ok 43 3 (ax_istore 3 4) := ok_istore_n rfl (by decide) dX5_countOf_3 rfl
theorem o_43_4 : ax_Ok 43 4 (ax_iload 3 5) := ok_iload_n rfl dX5_countOf_4 rfl
theorem o_43_5 : ax_Ok 43 5 (ax_aload 0 6) := ok_aload_n rfl dX5_countOf_5 rfl
theorem o_43_6 : ax_Ok 43 6 (ax_get 5 1 7) := ok_get (C := RX5) (T := TX5) (N := 2) rfl in_X5 (by decide) wd_24 rfl dX5_countOf_6 rfl
theorem o_43_7 : ax_Ok 43 9 (ax_icmp (fun x y => decide (y ≤ x)) 16 8) := ok_icmp_ge dX5_countOf_9 (by decide) rfl
theorem o_43_8 : ax_Ok 43 12 (ax_aload 0 9) := ok_aload_n rfl dX5_countOf_12 rfl
theorem o_43_9 : ax_Ok 43 13 (ax_iload 3 10) := ok_iload_n rfl dX5_countOf_13 rfl
theorem o_43_10 : ax_Ok 43 14 (ax_callV 5 39 1 11) := ok_callV (C := RX5) rfl rfl wd_241 wd_174 wd_175 wd_2 mo_39 (by decide) dX5_countOf_14 rfl
theorem o_43_11 : ax_Ok 43 17 (ax_iload 1 12) := ok_iload_n rfl dX5_countOf_17 rfl
theorem o_43_12 : ax_Ok 43 18 (ax_icmp (fun x y => decide (¬ x = y)) 14 13) := ok_icmp_ne dX5_countOf_18 (by decide) rfl
theorem o_43_13 : ax_Ok 43 21 (ax_iinc 2 1 14) := ok_iinc (by decide) (by decide) dX5_countOf_21 rfl
theorem o_43_14 : ax_Ok 43 24 (ax_iinc 3 1 15) := ok_iinc (by decide) (by decide) dX5_countOf_24 rfl
theorem o_43_15 : ax_Ok 43 27 (ax_goto 4) := ok_goto dX5_countOf_27 (by decide)
theorem o_43_16 : ax_Ok 43 30 (ax_iload 2 17) := ok_iload_n rfl dX5_countOf_30 rfl
theorem o_43_17 : ax_Ok 43 31 (ax_ret 0) := ok_ret0 rfl dX5_countOf_31
theorem o_44_0 : ax_Ok 44 0 (ax_iload 1 1) := ok_iload_n rfl dX5_hasFrom_0 rfl
theorem o_44_1 : ax_Ok 44 1 (ax_istore 3 2) := ok_istore_n rfl (by decide) dX5_hasFrom_1 rfl
theorem o_44_2 : ax_Ok 44 2 (ax_iload 3 3) := ok_iload_n rfl dX5_hasFrom_2 rfl
theorem o_44_3 : ax_Ok 44 3 (ax_aload 0 4) := ok_aload_n rfl dX5_hasFrom_3 rfl
theorem o_44_4 : ax_Ok 44 4 (ax_get 5 1 5) := ok_get (C := RX5) (T := TX5) (N := 2) rfl in_X5 (by decide) wd_24 rfl dX5_hasFrom_4 rfl
theorem o_44_5 : ax_Ok 44 7 (ax_icmp (fun x y => decide (y ≤ x)) 15 6) := ok_icmp_ge dX5_hasFrom_7 (by decide) rfl
theorem o_44_6 : ax_Ok 44 10 (ax_aload 0 7) := ok_aload_n rfl dX5_hasFrom_10 rfl
theorem o_44_7 : ax_Ok 44 11 (ax_iload 3 8) := ok_iload_n rfl dX5_hasFrom_11 rfl
theorem o_44_8 : ax_Ok 44 12 (ax_callV 5 39 1 9) := ok_callV (C := RX5) rfl rfl wd_241 wd_174 wd_175 wd_2 mo_39 (by decide) dX5_hasFrom_12 rfl
theorem o_44_9 : ax_Ok 44 15 (ax_iload 2 10) := ok_iload_n rfl dX5_hasFrom_15 rfl
theorem o_44_10 : ax_Ok 44 16 (ax_icmp (fun x y => decide (¬ x = y)) 13 11) := ok_icmp_ne dX5_hasFrom_16 (by decide) rfl
theorem o_44_11 : ax_Ok 44 19 (ax_const 1 12) := ok_iconst (by decide) dX5_hasFrom_19 rfl
theorem o_44_12 : ax_Ok 44 20 (ax_ret 1) := ok_ret1 rfl dX5_hasFrom_20
theorem o_44_13 : ax_Ok 44 21 (ax_iinc 3 1 14) := ok_iinc (by decide) (by decide) dX5_hasFrom_21 rfl
theorem o_44_14 : ax_Ok 44 24 (ax_goto 2) := ok_goto dX5_hasFrom_24 (by decide)
theorem o_44_15 : ax_Ok 44 27 (ax_const 0 16) := ok_iconst (by decide) dX5_hasFrom_27 rfl
theorem o_44_16 : ax_Ok 44 28 (ax_ret 1) := ok_ret1 rfl dX5_hasFrom_28
theorem o_45_0 : ax_Ok 45 0 (ax_iload 2 1) := ok_iload_n rfl dX5_isTwice_0 rfl
theorem o_45_1 : ax_Ok 45 1 (ax_iload 1 2) := ok_iload_n rfl dX5_isTwice_1 rfl
theorem o_45_2 : ax_Ok 45 2 (ax_bin (fun x y => x - y) 3) := ok_isub dX5_isTwice_2 rfl
theorem o_45_3 : ax_Ok 45 3 (ax_istore 3 4) := ok_istore_n rfl (by decide) dX5_isTwice_3 rfl
theorem o_45_4 : ax_Ok 45 4 (ax_aload 0 5) := ok_aload_n rfl dX5_isTwice_4 rfl
theorem o_45_5 : ax_Ok 45 5 (ax_get 5 1 6) := ok_get (C := RX5) (T := TX5) (N := 2) rfl in_X5 (by decide) wd_24 rfl dX5_isTwice_5 rfl
theorem o_45_6 : ax_Ok 45 8 (ax_iload 2 7) := ok_iload_n rfl dX5_isTwice_8 rfl
theorem o_45_7 : ax_Ok 45 9 (ax_bin (fun x y => x - y) 8) := ok_isub dX5_isTwice_9 rfl
theorem o_45_8 : ax_Ok 45 10 (ax_iload 3 9) := ok_iload_n rfl dX5_isTwice_10 rfl
theorem o_45_9 : ax_Ok 45 11 (ax_icmp (fun x y => decide (x = y)) 12 10) := ok_icmp_eq dX5_isTwice_11 (by decide) rfl
theorem o_45_10 : ax_Ok 45 14 (ax_const 0 11) := ok_iconst (by decide) dX5_isTwice_14 rfl
theorem o_45_11 : ax_Ok 45 15 (ax_ret 1) := ok_ret1 rfl dX5_isTwice_15
theorem o_45_12 : ax_Ok 45 16 (ax_const 0 13) := ok_iconst (by decide) dX5_isTwice_16 rfl
theorem o_45_13 : ax_Ok 45 17 (ax_istore 4 14) := ok_istore (by decide) dX5_isTwice_17 rfl
theorem o_45_14 : ax_Ok 45 19 (ax_iload 4 15) := ok_iload dX5_isTwice_19 rfl
theorem o_45_15 : ax_Ok 45 21 (ax_iload 3 16) := ok_iload_n rfl dX5_isTwice_21 rfl
theorem o_45_16 : ax_Ok 45 22 (ax_icmp (fun x y => decide (y ≤ x)) 32 17) := ok_icmp_ge dX5_isTwice_22 (by decide) rfl
theorem o_45_17 : ax_Ok 45 25 (ax_aload 0 18) := ok_aload_n rfl dX5_isTwice_25 rfl
theorem o_45_18 : ax_Ok 45 26 (ax_iload 1 19) := ok_iload_n rfl dX5_isTwice_26 rfl
theorem o_45_19 : ax_Ok 45 27 (ax_iload 4 20) := ok_iload dX5_isTwice_27 rfl
theorem o_45_20 : ax_Ok 45 29 (ax_bin (fun x y => x + y) 21) := ok_iadd dX5_isTwice_29 rfl
theorem o_45_21 : ax_Ok 45 30 (ax_callV 5 39 1 22) := ok_callV (C := RX5) rfl rfl wd_241 wd_174 wd_175 wd_2 mo_39 (by decide) dX5_isTwice_30 rfl
theorem o_45_22 : ax_Ok 45 33 (ax_aload 0 23) := ok_aload_n rfl dX5_isTwice_33 rfl
theorem o_45_23 : ax_Ok 45 34 (ax_iload 2 24) := ok_iload_n rfl dX5_isTwice_34 rfl
theorem o_45_24 : ax_Ok 45 35 (ax_iload 4 25) := ok_iload dX5_isTwice_35 rfl
theorem o_45_25 : ax_Ok 45 37 (ax_bin (fun x y => x + y) 26) := ok_iadd dX5_isTwice_37 rfl
theorem o_45_26 : ax_Ok 45 38 (ax_callV 5 39 1 27) := ok_callV (C := RX5) rfl rfl wd_241 wd_174 wd_175 wd_2 mo_39 (by decide) dX5_isTwice_38 rfl
theorem o_45_27 : ax_Ok 45 41 (ax_icmp (fun x y => decide (x = y)) 30 28) := ok_icmp_eq dX5_isTwice_41 (by decide) rfl
theorem o_45_28 : ax_Ok 45 44 (ax_const 0 29) := ok_iconst (by decide) dX5_isTwice_44 rfl
theorem o_45_29 : ax_Ok 45 45 (ax_ret 1) := ok_ret1 rfl dX5_isTwice_45
theorem o_45_30 : ax_Ok 45 46 (ax_iinc 4 1 31) := ok_iinc (by decide) (by decide) dX5_isTwice_46 rfl
theorem o_45_31 : ax_Ok 45 49 (ax_goto 14) := ok_goto dX5_isTwice_49 (by decide)
theorem o_45_32 : ax_Ok 45 52 (ax_const 1 33) := ok_iconst (by decide) dX5_isTwice_52 rfl
theorem o_45_33 : ax_Ok 45 53 (ax_ret 1) := ok_ret1 rfl dX5_isTwice_53
theorem o_46_0 : ax_Ok 46 0 (ax_aload 0 1) := ok_aload_n rfl dX6_init_0 rfl
theorem o_46_1 : ax_Ok 46 1 (ax_obj 2) := ok_obj wd_14 wd_15 wd_obj dX6_init_1 rfl
theorem o_46_2 : ax_Ok 46 4 (ax_aload 0 3) := ok_aload_n rfl dX6_init_4 rfl
theorem o_46_3 : ax_Ok 46 5 (ax_new 5 [.inr none, .inl 0] 4) := ok_new (C := RX5) (T := TX5) (N := 2) rfl in_X5 tyX5 tyX5_ok (by decide +kernel) rfl rfl wd_17 wd_18 wd_2 dX6_init_5 rfl
theorem o_46_4 : ax_Ok 46 8 (ax_dup 5) := ok_dup dX6_init_8 rfl
theorem o_46_5 : ax_Ok 46 9 (ax_callI 37 0 6) := ok_callIN (host := "RoleParts") wn_19 wd_20 wd_2 rfl rfl mo_37 (by decide) dX6_init_9 rfl
theorem o_46_6 : ax_Ok 46 12 (ax_put 6 0 3 7) := ok_putF (C := RX6) (T := TX6) (N := 9) rfl in_X6 tyX6 tyX6_ok nmX6 (by decide) wd_117 rfl rfl rfl rfl rfl dX6_init_12 rfl
theorem o_46_7 : ax_Ok 46 15 (ax_aload 0 8) := ok_aload_n rfl dX6_init_15 rfl
theorem o_46_8 : ax_Ok 46 16 (ax_new 0 [.inl 0, .inl 0] 9) := ok_new (C := RX0) (T := TX0) (N := 2) rfl in_X0 tyX0 tyX0_ok (by decide +kernel) rfl rfl wd_31 wd_32 wd_3 dX6_init_16 rfl
theorem o_46_9 : ax_Ok 46 19 (ax_dup 10) := ok_dup dX6_init_19 rfl
theorem o_46_10 : ax_Ok 46 20 (ax_callI 0 0 11) := ok_callIN (host := "RoleParts") wn_33 wd_34 wd_3 rfl rfl mo_0 (by decide) dX6_init_20 rfl
theorem o_46_11 : ax_Ok 46 23 (ax_put 6 1 3 12) := ok_putF (C := RX6) (T := TX6) (N := 9) rfl in_X6 tyX6 tyX6_ok nmX6 (by decide) wd_118 rfl rfl rfl rfl rfl dX6_init_23 rfl
theorem o_46_12 : ax_Ok 46 26 (ax_aload 0 13) := ok_aload_n rfl dX6_init_26 rfl
theorem o_46_13 : ax_Ok 46 27 (ax_new 4 [.inr none, .inr none, .inl 0, .inl 0] 14) := ok_new (C := RX4) (T := TX4) (N := 4) rfl in_X4 tyX4 tyX4_ok (by decide +kernel) rfl rfl wd_44 wd_45 wd_4 dX6_init_27 rfl
theorem o_46_14 : ax_Ok 46 30 (ax_dup 15) := ok_dup dX6_init_30 rfl
theorem o_46_15 : ax_Ok 46 31 (ax_callI 29 0 16) := ok_callIN (host := "RoleParts") wn_46 wd_47 wd_4 rfl rfl mo_29 (by decide) dX6_init_31 rfl
theorem o_46_16 : ax_Ok 46 34 (ax_put 6 2 3 17) := ok_putF (C := RX6) (T := TX6) (N := 9) rfl in_X6 tyX6 tyX6_ok nmX6 (by decide) wd_119 rfl rfl rfl rfl rfl dX6_init_34 rfl
theorem o_46_17 : ax_Ok 46 37 (ax_aload 0 18) := ok_aload_n rfl dX6_init_37 rfl
theorem o_46_18 : ax_Ok 46 38 (ax_const 4 19) := ok_iconst (by decide) dX6_init_38 rfl
theorem o_46_19 : ax_Ok 46 39 (ax_newq 2 20) := ok_newq (C := RX2) (by decide) (fun _ => rfl) wd_64 (by decide) dX6_init_39 rfl
theorem o_46_20 : ax_Ok 46 42 (ax_put 6 3 3 21) := ok_putF (C := RX6) (T := TX6) (N := 9) rfl in_X6 tyX6 tyX6_ok nmX6 (by decide) wd_120 rfl rfl rfl rfl rfl dX6_init_42 rfl
theorem o_46_21 : ax_Ok 46 45 (ax_aload 0 22) := ok_aload_n rfl dX6_init_45 rfl
theorem o_46_22 : ax_Ok 46 46 (ax_const 4 23) := ok_iconst (by decide) dX6_init_46 rfl
theorem o_46_23 : ax_Ok 46 47 (ax_newq 3 24) := ok_newq (C := RX1) (by decide) (fun _ => rfl) wd_66 (by decide) dX6_init_47 rfl
theorem o_46_24 : ax_Ok 46 50 (ax_put 6 4 3 25) := ok_putF (C := RX6) (T := TX6) (N := 9) rfl in_X6 tyX6 tyX6_ok nmX6 (by decide) wd_121 rfl rfl rfl rfl rfl dX6_init_50 rfl
theorem o_46_25 : ax_Ok 46 53 (ax_aload 0 26) := ok_aload_n rfl dX6_init_53 rfl
theorem o_46_26 : ax_Ok 46 54 (ax_const 16 27) := ok_bipush (by decide) dX6_init_54 rfl
theorem o_46_27 : ax_Ok 46 56 (ax_newq 4 28) := ok_newq (C := RX3) (by decide) (fun _ => rfl) wd_68 (by decide) dX6_init_56 rfl
theorem o_46_28 : ax_Ok 46 59 (ax_put 6 5 3 29) := ok_putF (C := RX6) (T := TX6) (N := 9) rfl in_X6 tyX6 tyX6_ok nmX6 (by decide) wd_122 rfl rfl rfl rfl rfl dX6_init_59 rfl
theorem o_46_29 : ax_Ok 46 62 (ax_aload 0 30) := ok_aload_n rfl dX6_init_62 rfl
theorem o_46_30 : ax_Ok 46 63 (ax_const (-1) 31) := ok_iconst (by decide) dX6_init_63 rfl
theorem o_46_31 : ax_Ok 46 64 (ax_put 6 6 0 32) := ok_put (C := RX6) (T := TX6) (N := 9) rfl in_X6 tyX6 tyX6_ok nmX6 (by decide) wd_123 rfl rfl rfl dX6_init_64 rfl
theorem o_46_32 : ax_Ok 46 67 (ax_aload 0 33) := ok_aload_n rfl dX6_init_67 rfl
theorem o_46_33 : ax_Ok 46 68 (ax_const 0 34) := ok_iconst (by decide) dX6_init_68 rfl
theorem o_46_34 : ax_Ok 46 69 (ax_put 6 7 1 35) := ok_put (C := RX6) (T := TX6) (N := 9) rfl in_X6 tyX6 tyX6_ok nmX6 (by decide) wd_124 rfl rfl rfl dX6_init_69 rfl
theorem o_46_35 : ax_Ok 46 72 (ax_aload 0 36) := ok_aload_n rfl dX6_init_72 rfl
theorem o_46_36 : ax_Ok 46 73 (ax_const 0 37) := ok_iconst (by decide) dX6_init_73 rfl
theorem o_46_37 : ax_Ok 46 74 (ax_put 6 8 0 38) := ok_put (C := RX6) (T := TX6) (N := 9) rfl in_X6 tyX6 tyX6_ok nmX6 (by decide) wd_125 rfl rfl rfl dX6_init_74 rfl
theorem o_46_38 : ax_Ok 46 77 (ax_const 0 39) := ok_iconst (by decide) dX6_init_77 rfl
theorem o_46_39 : ax_Ok 46 78 (ax_istore 1 40) := ok_istore_n rfl (by decide) dX6_init_78 rfl
theorem o_46_40 : ax_Ok 46 79 (ax_iload 1 41) := ok_iload_n rfl dX6_init_79 rfl
theorem o_46_41 : ax_Ok 46 80 (ax_const 4 42) := ok_iconst (by decide) dX6_init_80 rfl
theorem o_46_42 : ax_Ok 46 81 (ax_icmp (fun x y => decide (y ≤ x)) 71 43) := ok_icmp_ge dX6_init_81 (by decide) rfl
theorem o_46_43 : ax_Ok 46 84 (ax_new 5 [.inr none, .inl 0] 44) := ok_new (C := RX5) (T := TX5) (N := 2) rfl in_X5 tyX5 tyX5_ok (by decide +kernel) rfl rfl wd_17 wd_18 wd_2 dX6_init_84 rfl
theorem o_46_44 : ax_Ok 46 87 (ax_dup 45) := ok_dup dX6_init_87 rfl
theorem o_46_45 : ax_Ok 46 88 (ax_callI 37 0 46) := ok_callIN (host := "RoleParts") wn_19 wd_20 wd_2 rfl rfl mo_37 (by decide) dX6_init_88 rfl
theorem o_46_46 : ax_Ok 46 91 (ax_astore 2 47) := ok_astore_n rfl (by decide) dX6_init_91 rfl
theorem o_46_47 : ax_Ok 46 92 (ax_aload 0 48) := ok_aload_n rfl dX6_init_92 rfl
theorem o_46_48 : ax_Ok 46 93 (ax_get 6 3 49) := ok_get (C := RX6) (T := TX6) (N := 9) rfl in_X6 (by decide) wd_120 rfl dX6_init_93 rfl
theorem o_46_49 : ax_Ok 46 96 (ax_iload 1 50) := ok_iload_n rfl dX6_init_96 rfl
theorem o_46_50 : ax_Ok 46 97 (ax_new 2 [.inr none, .inl 0, .inl 0] 51) := ok_new (C := RX2) (T := TX2) (N := 3) rfl in_X2 tyX2 tyX2_ok (by decide +kernel) rfl rfl wd_64 wd_70 wd_5 dX6_init_97 rfl
theorem o_46_51 : ax_Ok 46 100 (ax_dup 52) := ok_dup dX6_init_100 rfl
theorem o_46_52 : ax_Ok 46 101 (ax_aload 2 53) := ok_aload_n rfl dX6_init_101 rfl
theorem o_46_53 : ax_Ok 46 102 (ax_callI 14 1 54) := ok_callI wd_71 wd_72 wd_5 rfl rfl mo_14 (by decide) dX6_init_102 rfl
theorem o_46_54 : ax_Ok 46 105 (ax_aast 55) := ok_aast dX6_init_105 rfl
theorem o_46_55 : ax_Ok 46 106 (ax_aload 0 56) := ok_aload_n rfl dX6_init_106 rfl
theorem o_46_56 : ax_Ok 46 107 (ax_get 6 4 57) := ok_get (C := RX6) (T := TX6) (N := 9) rfl in_X6 (by decide) wd_121 rfl dX6_init_107 rfl
theorem o_46_57 : ax_Ok 46 110 (ax_iload 1 58) := ok_iload_n rfl dX6_init_110 rfl
theorem o_46_58 : ax_Ok 46 111 (ax_new 1 [.inr none, .inl 0, .inr none, .inl 0] 59) := ok_new (C := RX1) (T := TX1) (N := 4) rfl in_X1 tyX1 tyX1_ok (by decide +kernel) rfl rfl wd_66 wd_87 wd_6 dX6_init_111 rfl
theorem o_46_59 : ax_Ok 46 114 (ax_dup 60) := ok_dup dX6_init_114 rfl
theorem o_46_60 : ax_Ok 46 115 (ax_aload 0 61) := ok_aload_n rfl dX6_init_115 rfl
theorem o_46_61 : ax_Ok 46 116 (ax_get 6 0 62) := ok_get (C := RX6) (T := TX6) (N := 9) rfl in_X6 (by decide) wd_117 rfl dX6_init_116 rfl
theorem o_46_62 : ax_Ok 46 119 (ax_const 65 63) := ok_bipush (by decide) dX6_init_119 rfl
theorem o_46_63 : ax_Ok 46 121 (ax_iload 1 64) := ok_iload_n rfl dX6_init_121 rfl
theorem o_46_64 : ax_Ok 46 122 (ax_bin (fun x y => x + y) 65) := ok_iadd dX6_init_122 rfl
theorem o_46_65 : ax_Ok 46 123 (ax_un (fun x => (x.toUInt32 % 65536).toInt32) 66) := ok_i2c dX6_init_123 rfl
theorem o_46_66 : ax_Ok 46 124 (ax_aload 2 67) := ok_aload_n rfl dX6_init_124 rfl
theorem o_46_67 : ax_Ok 46 125 (ax_callI 6 3 68) := ok_callI wd_88 wd_89 wd_6 rfl rfl mo_6 (by decide) dX6_init_125 rfl
theorem o_46_68 : ax_Ok 46 128 (ax_aast 69) := ok_aast dX6_init_128 rfl
theorem o_46_69 : ax_Ok 46 129 (ax_iinc 1 1 70) := ok_iinc (by decide) (by decide) dX6_init_129 rfl
theorem o_46_70 : ax_Ok 46 132 (ax_goto 40) := ok_goto dX6_init_132 (by decide)
theorem o_46_71 : ax_Ok 46 135 (ax_const 0 72) := ok_iconst (by decide) dX6_init_135 rfl
theorem o_46_72 : ax_Ok 46 136 (ax_istore 1 73) := ok_istore_n rfl (by decide) dX6_init_136 rfl
theorem o_46_73 : ax_Ok 46 137 (ax_iload 1 74) := ok_iload_n rfl dX6_init_137 rfl
theorem o_46_74 : ax_Ok 46 138 (ax_const 16 75) := ok_bipush (by decide) dX6_init_138 rfl
theorem o_46_75 : ax_Ok 46 140 (ax_icmp (fun x y => decide (y ≤ x)) 85 76) := ok_icmp_ge dX6_init_140 (by decide) rfl
theorem o_46_76 : ax_Ok 46 143 (ax_aload 0 77) := ok_aload_n rfl dX6_init_143 rfl
theorem o_46_77 : ax_Ok 46 144 (ax_get 6 5 78) := ok_get (C := RX6) (T := TX6) (N := 9) rfl in_X6 (by decide) wd_122 rfl dX6_init_144 rfl
theorem o_46_78 : ax_Ok 46 147 (ax_iload 1 79) := ok_iload_n rfl dX6_init_147 rfl
theorem o_46_79 : ax_Ok 46 148 (ax_new 3 [.inr none, .inl 0] 80) := ok_new (C := RX3) (T := TX3) (N := 2) rfl in_X3 tyX3 tyX3_ok (by decide +kernel) rfl rfl wd_68 wd_105 wd_7 dX6_init_148 rfl
theorem o_46_80 : ax_Ok 46 151 (ax_dup 81) := ok_dup dX6_init_151 rfl
theorem o_46_81 : ax_Ok 46 152 (ax_callI 22 0 82) := ok_callIN (host := "RoleParts") wn_106 wd_107 wd_7 rfl rfl mo_22 (by decide) dX6_init_152 rfl
theorem o_46_82 : ax_Ok 46 155 (ax_aast 83) := ok_aast dX6_init_155 rfl
theorem o_46_83 : ax_Ok 46 156 (ax_iinc 1 1 84) := ok_iinc (by decide) (by decide) dX6_init_156 rfl
theorem o_46_84 : ax_Ok 46 159 (ax_goto 73) := ok_goto dX6_init_159 (by decide)
theorem o_46_85 : ax_Ok 46 162 (ax_retv) := ok_retv rfl dX6_init_162
theorem o_47_0 : ax_Ok 47 0 (ax_iload 1 1) := ok_iload_n rfl dX6_type_0 rfl
theorem o_47_1 : ax_Ok 47 1 (ax_const 32 2) := ok_bipush (by decide) dX6_type_1 rfl
theorem o_47_2 : ax_Ok 47 3 (ax_icmp (fun x y => decide (x < y)) 13 3) := ok_icmp_lt dX6_type_3 (by decide) rfl
theorem o_47_3 : ax_Ok 47 6 (ax_iload 1 4) := ok_iload_n rfl dX6_type_6 rfl
theorem o_47_4 : ax_Ok 47 7 (ax_const 126 5) := ok_bipush (by decide) dX6_type_7 rfl
theorem o_47_5 : ax_Ok 47 9 (ax_icmp (fun x y => decide (y < x)) 13 6) := ok_icmp_gt dX6_type_9 (by decide) rfl
theorem o_47_6 : ax_Ok 47 12 (ax_aload 0 7) := ok_aload_n rfl dX6_type_12 rfl
theorem o_47_7 : ax_Ok 47 13 (ax_get 6 0 8) := ok_get (C := RX6) (T := TX6) (N := 9) rfl in_X6 (by decide) wd_117 rfl dX6_type_13 rfl
theorem o_47_8 : ax_Ok 47 16 (ax_iload 1 9) := ok_iload_n rfl dX6_type_16 rfl
theorem o_47_9 : ax_Ok 47 17 (ax_callV 5 40 1 10) := ok_callV (C := RX5) rfl rfl wd_149 wd_150 wd_151 wd_2 mo_40 (by decide) dX6_type_17 rfl
theorem o_47_10 : ax_Ok 47 20 (ax_if (fun x => decide (x = 0)) 13 11) := ok_if_eq dX6_type_20 (by decide) rfl
theorem o_47_11 : ax_Ok 47 23 (ax_const 1 12) := ok_iconst (by decide) dX6_type_23 rfl
theorem o_47_12 : ax_Ok 47 24 (ax_goto 14) := ok_goto dX6_type_24 (by decide)
theorem o_47_13 : ax_Ok 47 27 (ax_const 0 14) := ok_iconst (by decide) dX6_type_27 rfl
theorem o_47_14 : ax_Ok 47 28 (ax_ret 1) := ok_ret1 rfl dX6_type_28
theorem o_48_0 : ax_Ok 48 0 (ax_aload 0 1) := ok_aload_n rfl dX6_define_0 rfl
theorem o_48_1 : ax_Ok 48 1 (ax_callV 6 63 0 2) := ok_callV (C := RX6) rfl rfl wd_161 wd_163 wp_0 wd_1 mo_63 (by decide) dX6_define_1 rfl
theorem o_48_2 : ax_Ok 48 4 (ax_istore 1 3) := ok_istore_n rfl (by decide) dX6_define_4 rfl
theorem o_48_3 : ax_Ok 48 5 (ax_iload 1 4) := ok_iload_n rfl dX6_define_5 rfl
theorem o_48_4 : ax_Ok 48 6 (ax_const (-1) 5) := ok_iconst (by decide) dX6_define_6 rfl
theorem o_48_5 : ax_Ok 48 7 (ax_icmp (fun x y => decide (¬ x = y)) 8 6) := ok_icmp_ne dX6_define_7 (by decide) rfl
theorem o_48_6 : ax_Ok 48 10 (ax_aload 0 7) := ok_aload_n rfl dX6_define_10 rfl
theorem o_48_7 : ax_Ok 48 11 (ax_callV 6 64 0 8) := ok_callV (C := RX6) rfl rfl wd_233 wd_235 wp_11 wd_1 mo_64 (by decide) dX6_define_11 rfl
theorem o_48_8 : ax_Ok 48 14 (ax_aload 0 9) := ok_aload_n rfl dX6_define_14 rfl
theorem o_48_9 : ax_Ok 48 15 (ax_get 6 0 10) := ok_get (C := RX6) (T := TX6) (N := 9) rfl in_X6 (by decide) wd_117 rfl dX6_define_15 rfl
theorem o_48_10 : ax_Ok 48 18 (ax_const 0 11) := ok_iconst (by decide) dX6_define_18 rfl
theorem o_48_11 : ax_Ok 48 19 (ax_callV 5 42 1 12) := ok_callV (C := RX5) rfl rfl wd_287 wd_247 wd_248 wd_2 mo_42 (by decide) dX6_define_19 rfl
theorem o_48_12 : ax_Ok 48 22 (ax_iload 1 13) := ok_iload_n rfl dX6_define_22 rfl
theorem o_48_13 : ax_Ok 48 23 (ax_ret 0) := ok_ret0 rfl dX6_define_23
theorem o_49_0 : ax_Ok 49 0 (ax_aload 0 1) := ok_aload_n rfl dX6_messages_0 rfl
theorem o_49_1 : ax_Ok 49 1 (ax_get 6 6 2) := ok_get (C := RX6) (T := TX6) (N := 9) rfl in_X6 (by decide) wd_123 rfl dX6_messages_1 rfl
theorem o_49_2 : ax_Ok 49 4 (ax_ret 0) := ok_ret0 rfl dX6_messages_4
theorem o_50_0 : ax_Ok 50 0 (ax_aload 0 1) := ok_aload_n rfl dX6_length_0 rfl
theorem o_50_1 : ax_Ok 50 1 (ax_iload 1 2) := ok_iload_n rfl dX6_length_1 rfl
theorem o_50_2 : ax_Ok 50 2 (ax_callV 6 65 1 3) := ok_callV (C := RX6) rfl rfl wd_296 wd_298 wp_18 wd_1 mo_65 (by decide) dX6_length_2 rfl
theorem o_50_3 : ax_Ok 50 5 (ax_if (fun x => decide (x = 0)) 11 4) := ok_if_eq dX6_length_5 (by decide) rfl
theorem o_50_4 : ax_Ok 50 8 (ax_aload 0 5) := ok_aload_n rfl dX6_length_8 rfl
theorem o_50_5 : ax_Ok 50 9 (ax_get 6 3 6) := ok_get (C := RX6) (T := TX6) (N := 9) rfl in_X6 (by decide) wd_120 rfl dX6_length_9 rfl
theorem o_50_6 : ax_Ok 50 12 (ax_iload 1 7) := ok_iload_n rfl dX6_length_12 rfl
theorem o_50_7 : ax_Ok 50 13 (ax_aald 8) := ok_aald dX6_length_13 rfl
theorem o_50_8 : ax_Ok 50 14 (ax_get 2 0 9) := ok_getN (C := RX2) (T := TX2) (N := 3) rfl in_X2 (by decide) wn_76 rfl dX6_length_14 rfl
theorem o_50_9 : ax_Ok 50 17 (ax_callV 5 38 0 10) := ok_callV (C := RX5) rfl rfl wd_303 wd_170 wd_171 wd_2 mo_38 (by decide) dX6_length_17 rfl
theorem o_50_10 : ax_Ok 50 20 (ax_goto 12) := ok_goto dX6_length_20 (by decide)
theorem o_50_11 : ax_Ok 50 23 (ax_const (-1) 12) := ok_iconst (by decide) dX6_length_23 rfl
theorem o_50_12 : ax_Ok 50 24 (ax_ret 0) := ok_ret0 rfl dX6_length_24
theorem o_51_0 : ax_Ok 51 0 (ax_aload 0 1) := ok_aload_n rfl dX6_charAt_0 rfl
theorem o_51_1 : ax_Ok 51 1 (ax_iload 1 2) := ok_iload_n rfl dX6_charAt_1 rfl
theorem o_51_2 : ax_Ok 51 2 (ax_callV 6 65 1 3) := ok_callV (C := RX6) rfl rfl wd_296 wd_298 wp_18 wd_1 mo_65 (by decide) dX6_charAt_2 rfl
theorem o_51_3 : ax_Ok 51 5 (ax_if (fun x => decide (x = 0)) 14 4) := ok_if_eq dX6_charAt_5 (by decide) rfl
theorem o_51_4 : ax_Ok 51 8 (ax_iload 2 5) := ok_iload_n rfl dX6_charAt_8 rfl
theorem o_51_5 : ax_Ok 51 9 (ax_if (fun x => decide (x < 0)) 14 6) := ok_if_lt dX6_charAt_9 (by decide) rfl
theorem o_51_6 : ax_Ok 51 12 (ax_iload 2 7) := ok_iload_n rfl dX6_charAt_12 rfl
theorem o_51_7 : ax_Ok 51 13 (ax_aload 0 8) := ok_aload_n rfl dX6_charAt_13 rfl
theorem o_51_8 : ax_Ok 51 14 (ax_get 6 3 9) := ok_get (C := RX6) (T := TX6) (N := 9) rfl in_X6 (by decide) wd_120 rfl dX6_charAt_14 rfl
theorem o_51_9 : ax_Ok 51 17 (ax_iload 1 10) := ok_iload_n rfl dX6_charAt_17 rfl
theorem o_51_10 : ax_Ok 51 18 (ax_aald 11) := ok_aald dX6_charAt_18 rfl
theorem o_51_11 : ax_Ok 51 19 (ax_get 2 0 12) := ok_getN (C := RX2) (T := TX2) (N := 3) rfl in_X2 (by decide) wn_76 rfl dX6_charAt_19 rfl
theorem o_51_12 : ax_Ok 51 22 (ax_callV 5 38 0 13) := ok_callV (C := RX5) rfl rfl wd_303 wd_170 wd_171 wd_2 mo_38 (by decide) dX6_charAt_22 rfl
theorem o_51_13 : ax_Ok 51 25 (ax_icmp (fun x y => decide (x < y)) 16 14) := ok_icmp_lt dX6_charAt_25 (by decide) rfl
theorem o_51_14 : ax_Ok 51 28 (ax_const (-1) 15) := ok_iconst (by decide) dX6_charAt_28 rfl
theorem o_51_15 : ax_Ok 51 29 (ax_ret 0) := ok_ret0 rfl dX6_charAt_29
theorem o_51_16 : ax_Ok 51 30 (ax_aload 0 17) := ok_aload_n rfl dX6_charAt_30 rfl
theorem o_51_17 : ax_Ok 51 31 (ax_get 6 3 18) := ok_get (C := RX6) (T := TX6) (N := 9) rfl in_X6 (by decide) wd_120 rfl dX6_charAt_31 rfl
theorem o_51_18 : ax_Ok 51 34 (ax_iload 1 19) := ok_iload_n rfl dX6_charAt_34 rfl
theorem o_51_19 : ax_Ok 51 35 (ax_aald 20) := ok_aald dX6_charAt_35 rfl
theorem o_51_20 : ax_Ok 51 36 (ax_get 2 0 21) := ok_getN (C := RX2) (T := TX2) (N := 3) rfl in_X2 (by decide) wn_76 rfl dX6_charAt_36 rfl
theorem o_51_21 : ax_Ok 51 39 (ax_iload 2 22) := ok_iload_n rfl dX6_charAt_39 rfl
theorem o_51_22 : ax_Ok 51 40 (ax_callV 5 39 1 23) := ok_callV (C := RX5) rfl rfl wd_308 wd_174 wd_175 wd_2 mo_39 (by decide) dX6_charAt_40 rfl
theorem o_51_23 : ax_Ok 51 43 (ax_ret 0) := ok_ret0 rfl dX6_charAt_43
theorem o_52_0 : ax_Ok 52 0 (ax_const 0 1) := ok_iconst (by decide) dX6_begin_0 rfl
theorem o_52_1 : ax_Ok 52 1 (ax_istore 1 2) := ok_istore_n rfl (by decide) dX6_begin_1 rfl
theorem o_52_2 : ax_Ok 52 2 (ax_iload 1 3) := ok_iload_n rfl dX6_begin_2 rfl
theorem o_52_3 : ax_Ok 52 3 (ax_const 4 4) := ok_iconst (by decide) dX6_begin_3 rfl
theorem o_52_4 : ax_Ok 52 4 (ax_icmp (fun x y => decide (y ≤ x)) 13 5) := ok_icmp_ge dX6_begin_4 (by decide) rfl
theorem o_52_5 : ax_Ok 52 7 (ax_aload 0 6) := ok_aload_n rfl dX6_begin_7 rfl
theorem o_52_6 : ax_Ok 52 8 (ax_iload 1 7) := ok_iload_n rfl dX6_begin_8 rfl
theorem o_52_7 : ax_Ok 52 9 (ax_callV 6 65 1 8) := ok_callV (C := RX6) rfl rfl wd_296 wd_298 wp_18 wd_1 mo_65 (by decide) dX6_begin_9 rfl
theorem o_52_8 : ax_Ok 52 12 (ax_if (fun x => decide (¬ x = 0)) 11 9) := ok_if_ne dX6_begin_12 (by decide) rfl
theorem o_52_9 : ax_Ok 52 15 (ax_const 0 10) := ok_iconst (by decide) dX6_begin_15 rfl
theorem o_52_10 : ax_Ok 52 16 (ax_ret 1) := ok_ret1 rfl dX6_begin_16
theorem o_52_11 : ax_Ok 52 17 (ax_iinc 1 1 12) := ok_iinc (by decide) (by decide) dX6_begin_17 rfl
theorem o_52_12 : ax_Ok 52 20 (ax_goto 2) := ok_goto dX6_begin_20 (by decide)
theorem o_52_13 : ax_Ok 52 23 (ax_const 0 14) := ok_iconst (by decide) dX6_begin_23 rfl
theorem o_52_14 : ax_Ok 52 24 (ax_istore 1 15) := ok_istore_n rfl (by decide) dX6_begin_24 rfl
theorem o_52_15 : ax_Ok 52 25 (ax_iload 1 16) := ok_iload_n rfl dX6_begin_25 rfl
theorem o_52_16 : ax_Ok 52 26 (ax_const 4 17) := ok_iconst (by decide) dX6_begin_26 rfl
theorem o_52_17 : ax_Ok 52 27 (ax_icmp (fun x y => decide (y ≤ x)) 25 18) := ok_icmp_ge dX6_begin_27 (by decide) rfl
theorem o_52_18 : ax_Ok 52 30 (ax_aload 0 19) := ok_aload_n rfl dX6_begin_30 rfl
theorem o_52_19 : ax_Ok 52 31 (ax_get 6 3 20) := ok_get (C := RX6) (T := TX6) (N := 9) rfl in_X6 (by decide) wd_120 rfl dX6_begin_31 rfl
theorem o_52_20 : ax_Ok 52 34 (ax_iload 1 21) := ok_iload_n rfl dX6_begin_34 rfl
theorem o_52_21 : ax_Ok 52 35 (ax_aald 22) := ok_aald dX6_begin_35 rfl
theorem o_52_22 : ax_Ok 52 36 (ax_callV 2 15 0 23) := ok_callV (C := RX2) rfl rfl wd_313 wd_314 wd_315 wd_5 mo_15 (by decide) dX6_begin_36 rfl
theorem o_52_23 : ax_Ok 52 39 (ax_iinc 1 1 24) := ok_iinc (by decide) (by decide) dX6_begin_39 rfl
theorem o_52_24 : ax_Ok 52 42 (ax_goto 15) := ok_goto dX6_begin_42 (by decide)
theorem o_52_25 : ax_Ok 52 45 (ax_const 0 26) := ok_iconst (by decide) dX6_begin_45 rfl
theorem o_52_26 : ax_Ok 52 46 (ax_istore 1 27) := ok_istore_n rfl (by decide) dX6_begin_46 rfl
theorem o_52_27 : ax_Ok 52 47 (ax_iload 1 28) := ok_iload_n rfl dX6_begin_47 rfl
theorem o_52_28 : ax_Ok 52 48 (ax_const 16 29) := ok_bipush (by decide) dX6_begin_48 rfl
theorem o_52_29 : ax_Ok 52 50 (ax_icmp (fun x y => decide (y ≤ x)) 37 30) := ok_icmp_ge dX6_begin_50 (by decide) rfl
theorem o_52_30 : ax_Ok 52 53 (ax_aload 0 31) := ok_aload_n rfl dX6_begin_53 rfl
theorem o_52_31 : ax_Ok 52 54 (ax_get 6 5 32) := ok_get (C := RX6) (T := TX6) (N := 9) rfl in_X6 (by decide) wd_122 rfl dX6_begin_54 rfl
theorem o_52_32 : ax_Ok 52 57 (ax_iload 1 33) := ok_iload_n rfl dX6_begin_57 rfl
theorem o_52_33 : ax_Ok 52 58 (ax_aald 34) := ok_aald dX6_begin_58 rfl
theorem o_52_34 : ax_Ok 52 59 (ax_callV 3 26 0 35) := ok_callV (C := RX3) rfl rfl wd_327 wd_328 wd_329 wd_7 mo_26 (by decide) dX6_begin_59 rfl
theorem o_52_35 : ax_Ok 52 62 (ax_iinc 1 1 36) := ok_iinc (by decide) (by decide) dX6_begin_62 rfl
theorem o_52_36 : ax_Ok 52 65 (ax_goto 27) := ok_goto dX6_begin_65 (by decide)
theorem o_52_37 : ax_Ok 52 68 (ax_aload 0 38) := ok_aload_n rfl dX6_begin_68 rfl
theorem o_52_38 : ax_Ok 52 69 (ax_const 0 39) := ok_iconst (by decide) dX6_begin_69 rfl
theorem o_52_39 : ax_Ok 52 70 (ax_put 6 8 0 40) := ok_put (C := RX6) (T := TX6) (N := 9) rfl in_X6 tyX6 tyX6_ok nmX6 (by decide) wd_125 rfl rfl rfl dX6_begin_70 rfl
theorem o_52_40 : ax_Ok 52 73 (ax_aload 0 41) := ok_aload_n rfl dX6_begin_73 rfl
theorem o_52_41 : ax_Ok 52 74 (ax_const 1 42) := ok_iconst (by decide) dX6_begin_74 rfl
theorem o_52_42 : ax_Ok 52 75 (ax_put 6 7 1 43) := ok_put (C := RX6) (T := TX6) (N := 9) rfl in_X6 tyX6 tyX6_ok nmX6 (by decide) wd_124 rfl rfl rfl dX6_begin_75 rfl
theorem o_52_43 : ax_Ok 52 78 (ax_const 1 44) := ok_iconst (by decide) dX6_begin_78 rfl
theorem o_52_44 : ax_Ok 52 79 (ax_ret 1) := ok_ret1 rfl dX6_begin_79
theorem o_53_0 : ax_Ok 53 0 (ax_aload 0 1) := ok_aload_n rfl dX6_act_0 rfl
theorem o_53_1 : ax_Ok 53 1 (ax_iload 1 2) := ok_iload_n rfl dX6_act_1 rfl
theorem o_53_2 : ax_Ok 53 2 (ax_callV 6 66 1 3) := ok_callV (C := RX6) rfl rfl wd_335 wd_337 wp_21 wd_1 mo_66 (by decide) dX6_act_2 rfl
theorem o_53_3 : ax_Ok 53 5 (ax_astore 2 4) := ok_astore_n rfl (by decide) dX6_act_5 rfl
theorem o_53_4 : ax_Ok 53 6 (ax_aload 2 5) := ok_aload_n rfl dX6_act_6 rfl
theorem o_53_5 : ax_Ok 53 7 (ax_ifnonnull 8 6) := ok_ifnonnull dX6_act_7 (by decide) rfl
theorem o_53_6 : ax_Ok 53 10 (ax_const (-1) 7) := ok_iconst (by decide) dX6_act_10 rfl
theorem o_53_7 : ax_Ok 53 11 (ax_goto 10) := ok_goto dX6_act_11 (by decide)
theorem o_53_8 : ax_Ok 53 14 (ax_aload 2 9) := ok_aload_n rfl dX6_act_14 rfl
theorem o_53_9 : ax_Ok 53 15 (ax_callV 2 16 0 10) := ok_callV (C := RX2) rfl rfl wd_339 wd_340 wd_341 wd_5 mo_16 (by decide) dX6_act_15 rfl
theorem o_53_10 : ax_Ok 53 18 (ax_ret 0) := ok_ret0 rfl dX6_act_18
theorem o_54_0 : ax_Ok 54 0 (ax_aload 0 1) := ok_aload_n rfl dX6_partner_0 rfl
theorem o_54_1 : ax_Ok 54 1 (ax_iload 1 2) := ok_iload_n rfl dX6_partner_1 rfl
theorem o_54_2 : ax_Ok 54 2 (ax_callV 6 66 1 3) := ok_callV (C := RX6) rfl rfl wd_335 wd_337 wp_21 wd_1 mo_66 (by decide) dX6_partner_2 rfl
theorem o_54_3 : ax_Ok 54 5 (ax_astore 2 4) := ok_astore_n rfl (by decide) dX6_partner_5 rfl
theorem o_54_4 : ax_Ok 54 6 (ax_aload 2 5) := ok_aload_n rfl dX6_partner_6 rfl
theorem o_54_5 : ax_Ok 54 7 (ax_ifnonnull 8 6) := ok_ifnonnull dX6_partner_7 (by decide) rfl
theorem o_54_6 : ax_Ok 54 10 (ax_const (-1) 7) := ok_iconst (by decide) dX6_partner_10 rfl
theorem o_54_7 : ax_Ok 54 11 (ax_goto 10) := ok_goto dX6_partner_11 (by decide)
theorem o_54_8 : ax_Ok 54 14 (ax_aload 2 9) := ok_aload_n rfl dX6_partner_14 rfl
theorem o_54_9 : ax_Ok 54 15 (ax_callV 2 17 0 10) := ok_callV (C := RX2) rfl rfl wd_348 wd_349 wd_350 wd_5 mo_17 (by decide) dX6_partner_15 rfl
theorem o_54_10 : ax_Ok 54 18 (ax_ret 0) := ok_ret0 rfl dX6_partner_18
theorem o_55_0 : ax_Ok 55 0 (ax_aload 0 1) := ok_aload_n rfl dX6_offers_0 rfl
theorem o_55_1 : ax_Ok 55 1 (ax_iload 1 2) := ok_iload_n rfl dX6_offers_1 rfl
theorem o_55_2 : ax_Ok 55 2 (ax_callV 6 66 1 3) := ok_callV (C := RX6) rfl rfl wd_335 wd_337 wp_21 wd_1 mo_66 (by decide) dX6_offers_2 rfl
theorem o_55_3 : ax_Ok 55 5 (ax_astore 3 4) := ok_astore_n rfl (by decide) dX6_offers_5 rfl
theorem o_55_4 : ax_Ok 55 6 (ax_aload 3 5) := ok_aload_n rfl dX6_offers_6 rfl
theorem o_55_5 : ax_Ok 55 7 (ax_ifnull 13 6) := ok_ifnull dX6_offers_7 (by decide) rfl
theorem o_55_6 : ax_Ok 55 10 (ax_aload 3 7) := ok_aload_n rfl dX6_offers_10 rfl
theorem o_55_7 : ax_Ok 55 11 (ax_iload 2 8) := ok_iload_n rfl dX6_offers_11 rfl
theorem o_55_8 : ax_Ok 55 12 (ax_callV 2 18 1 9) := ok_callV (C := RX2) rfl rfl wd_356 wd_357 wd_358 wd_5 mo_18 (by decide) dX6_offers_12 rfl
theorem o_55_9 : ax_Ok 55 15 (ax_const (-1) 10) := ok_iconst (by decide) dX6_offers_15 rfl
theorem o_55_10 : ax_Ok 55 16 (ax_icmp (fun x y => decide (x = y)) 13 11) := ok_icmp_eq dX6_offers_16 (by decide) rfl
theorem o_55_11 : ax_Ok 55 19 (ax_const 1 12) := ok_iconst (by decide) dX6_offers_19 rfl
theorem o_55_12 : ax_Ok 55 20 (ax_goto 14) := ok_goto dX6_offers_20 (by decide)
theorem o_55_13 : ax_Ok 55 23 (ax_const 0 14) := ok_iconst (by decide) dX6_offers_23 rfl
theorem o_55_14 : ax_Ok 55 24 (ax_ret 1) := ok_ret1 rfl dX6_offers_24
theorem o_56_0 : ax_Ok 56 0 (ax_aload 0 1) := ok_aload_n rfl dX6_send_0 rfl
theorem o_56_1 : ax_Ok 56 1 (ax_iload 1 2) := ok_iload_n rfl dX6_send_1 rfl
theorem o_56_2 : ax_Ok 56 2 (ax_callV 6 66 1 3) := ok_callV (C := RX6) rfl rfl wd_335 wd_337 wp_21 wd_1 mo_66 (by decide) dX6_send_2 rfl
theorem o_56_3 : ax_Ok 56 5 (ax_astore 3 4) := ok_astore_n rfl (by decide) dX6_send_5 rfl
theorem o_56_4 : ax_Ok 56 6 (ax_aload 3 5) := ok_aload_n rfl dX6_send_6 rfl
theorem o_56_5 : ax_Ok 56 7 (ax_ifnull 10 6) := ok_ifnull dX6_send_7 (by decide) rfl
theorem o_56_6 : ax_Ok 56 10 (ax_aload 3 7) := ok_aload_n rfl dX6_send_10 rfl
theorem o_56_7 : ax_Ok 56 11 (ax_callV 2 16 0 8) := ok_callV (C := RX2) rfl rfl wd_339 wd_340 wd_341 wd_5 mo_16 (by decide) dX6_send_11 rfl
theorem o_56_8 : ax_Ok 56 14 (ax_const 1 9) := ok_iconst (by decide) dX6_send_14 rfl
theorem o_56_9 : ax_Ok 56 15 (ax_icmp (fun x y => decide (x = y)) 12 10) := ok_icmp_eq dX6_send_15 (by decide) rfl
theorem o_56_10 : ax_Ok 56 18 (ax_const 0 11) := ok_iconst (by decide) dX6_send_18 rfl
theorem o_56_11 : ax_Ok 56 19 (ax_ret 1) := ok_ret1 rfl dX6_send_19
theorem o_56_12 : ax_Ok 56 20 (ax_aload 0 13) := ok_aload_n rfl dX6_send_20 rfl
theorem o_56_13 : ax_Ok 56 21 (ax_iload 1 14) := ok_iload_n rfl dX6_send_21 rfl
theorem o_56_14 : ax_Ok 56 22 (ax_aload 3 15) := ok_aload_n rfl dX6_send_22 rfl
theorem o_56_15 : ax_Ok 56 23 (ax_callV 2 17 0 16) := ok_callV (C := RX2) rfl rfl wd_348 wd_349 wd_350 wd_5 mo_17 (by decide) dX6_send_23 rfl
theorem o_56_16 : ax_Ok 56 26 (ax_callV 6 67 2 17) := ok_callV (C := RX6) rfl rfl wd_366 wd_368 wp_22 wd_1 mo_67 (by decide) dX6_send_26 rfl
theorem o_56_17 : ax_Ok 56 29 (ax_astore 4 18) := ok_astore (by decide) dX6_send_29 rfl
theorem o_56_18 : ax_Ok 56 31 (ax_aload 4 19) := ok_aload dX6_send_31 rfl
theorem o_56_19 : ax_Ok 56 33 (ax_ifnull 27 20) := ok_ifnull dX6_send_33 (by decide) rfl
theorem o_56_20 : ax_Ok 56 36 (ax_aload 4 21) := ok_aload dX6_send_36 rfl
theorem o_56_21 : ax_Ok 56 38 (ax_callV 3 24 0 22) := ok_callV (C := RX3) rfl rfl wd_370 wd_371 wd_372 wd_7 mo_24 (by decide) dX6_send_38 rfl
theorem o_56_22 : ax_Ok 56 41 (ax_if (fun x => decide (¬ x = 0)) 27 23) := ok_if_ne dX6_send_41 (by decide) rfl
theorem o_56_23 : ax_Ok 56 44 (ax_aload 3 24) := ok_aload_n rfl dX6_send_44 rfl
theorem o_56_24 : ax_Ok 56 45 (ax_iload 2 25) := ok_iload_n rfl dX6_send_45 rfl
theorem o_56_25 : ax_Ok 56 46 (ax_callV 2 19 1 26) := ok_callV (C := RX2) rfl rfl wd_374 wd_375 wd_376 wd_5 mo_19 (by decide) dX6_send_46 rfl
theorem o_56_26 : ax_Ok 56 49 (ax_if (fun x => decide (¬ x = 0)) 29 27) := ok_if_ne dX6_send_49 (by decide) rfl
theorem o_56_27 : ax_Ok 56 52 (ax_const 0 28) := ok_iconst (by decide) dX6_send_52 rfl
theorem o_56_28 : ax_Ok 56 53 (ax_ret 1) := ok_ret1 rfl dX6_send_53
theorem o_56_29 : ax_Ok 56 54 (ax_aload 4 30) := ok_aload dX6_send_54 rfl
theorem o_56_30 : ax_Ok 56 56 (ax_iload 2 31) := ok_iload_n rfl dX6_send_56 rfl
theorem o_56_31 : ax_Ok 56 57 (ax_callV 3 27 1 32) := ok_callV (C := RX3) rfl rfl wd_379 wd_380 wd_381 wd_7 mo_27 (by decide) dX6_send_57 rfl
theorem o_56_32 : ax_Ok 56 60 (ax_aload 0 33) := ok_aload_n rfl dX6_send_60 rfl
theorem o_56_33 : ax_Ok 56 61 (ax_dup 34) := ok_dup dX6_send_61 rfl
theorem o_56_34 : ax_Ok 56 62 (ax_get 6 8 35) := ok_get (C := RX6) (T := TX6) (N := 9) rfl in_X6 (by decide) wd_125 rfl dX6_send_62 rfl
theorem o_56_35 : ax_Ok 56 65 (ax_const 1 36) := ok_iconst (by decide) dX6_send_65 rfl
theorem o_56_36 : ax_Ok 56 66 (ax_bin (fun x y => x + y) 37) := ok_iadd dX6_send_66 rfl
theorem o_56_37 : ax_Ok 56 67 (ax_put 6 8 0 38) := ok_put (C := RX6) (T := TX6) (N := 9) rfl in_X6 tyX6 tyX6_ok nmX6 (by decide) wd_125 rfl rfl rfl dX6_send_67 rfl
theorem o_56_38 : ax_Ok 56 70 (ax_const 1 39) := ok_iconst (by decide) dX6_send_70 rfl
theorem o_56_39 : ax_Ok 56 71 (ax_ret 1) := ok_ret1 rfl dX6_send_71
theorem o_57_0 : ax_Ok 57 0 (ax_aload 0 1) := ok_aload_n rfl dX6_receive_0 rfl
theorem o_57_1 : ax_Ok 57 1 (ax_iload 1 2) := ok_iload_n rfl dX6_receive_1 rfl
theorem o_57_2 : ax_Ok 57 2 (ax_callV 6 66 1 3) := ok_callV (C := RX6) rfl rfl wd_335 wd_337 wp_21 wd_1 mo_66 (by decide) dX6_receive_2 rfl
theorem o_57_3 : ax_Ok 57 5 (ax_astore 2 4) := ok_astore_n rfl (by decide) dX6_receive_5 rfl
theorem o_57_4 : ax_Ok 57 6 (ax_aload 2 5) := ok_aload_n rfl dX6_receive_6 rfl
theorem o_57_5 : ax_Ok 57 7 (ax_ifnull 10 6) := ok_ifnull dX6_receive_7 (by decide) rfl
theorem o_57_6 : ax_Ok 57 10 (ax_aload 2 7) := ok_aload_n rfl dX6_receive_10 rfl
theorem o_57_7 : ax_Ok 57 11 (ax_callV 2 16 0 8) := ok_callV (C := RX2) rfl rfl wd_339 wd_340 wd_341 wd_5 mo_16 (by decide) dX6_receive_11 rfl
theorem o_57_8 : ax_Ok 57 14 (ax_const 2 9) := ok_iconst (by decide) dX6_receive_14 rfl
theorem o_57_9 : ax_Ok 57 15 (ax_icmp (fun x y => decide (x = y)) 12 10) := ok_icmp_eq dX6_receive_15 (by decide) rfl
theorem o_57_10 : ax_Ok 57 18 (ax_const (-1) 11) := ok_iconst (by decide) dX6_receive_18 rfl
theorem o_57_11 : ax_Ok 57 19 (ax_ret 0) := ok_ret0 rfl dX6_receive_19
theorem o_57_12 : ax_Ok 57 20 (ax_aload 0 13) := ok_aload_n rfl dX6_receive_20 rfl
theorem o_57_13 : ax_Ok 57 21 (ax_aload 2 14) := ok_aload_n rfl dX6_receive_21 rfl
theorem o_57_14 : ax_Ok 57 22 (ax_callV 2 17 0 15) := ok_callV (C := RX2) rfl rfl wd_348 wd_349 wd_350 wd_5 mo_17 (by decide) dX6_receive_22 rfl
theorem o_57_15 : ax_Ok 57 25 (ax_iload 1 16) := ok_iload_n rfl dX6_receive_25 rfl
theorem o_57_16 : ax_Ok 57 26 (ax_callV 6 67 2 17) := ok_callV (C := RX6) rfl rfl wd_366 wd_368 wp_22 wd_1 mo_67 (by decide) dX6_receive_26 rfl
theorem o_57_17 : ax_Ok 57 29 (ax_astore 3 18) := ok_astore_n rfl (by decide) dX6_receive_29 rfl
theorem o_57_18 : ax_Ok 57 30 (ax_aload 3 19) := ok_aload_n rfl dX6_receive_30 rfl
theorem o_57_19 : ax_Ok 57 31 (ax_ifnull 23 20) := ok_ifnull dX6_receive_31 (by decide) rfl
theorem o_57_20 : ax_Ok 57 34 (ax_aload 3 21) := ok_aload_n rfl dX6_receive_34 rfl
theorem o_57_21 : ax_Ok 57 35 (ax_callV 3 23 0 22) := ok_callV (C := RX3) rfl rfl wd_387 wd_388 wd_389 wd_7 mo_23 (by decide) dX6_receive_35 rfl
theorem o_57_22 : ax_Ok 57 38 (ax_if (fun x => decide (¬ x = 0)) 25 23) := ok_if_ne dX6_receive_38 (by decide) rfl
theorem o_57_23 : ax_Ok 57 41 (ax_const (-1) 24) := ok_iconst (by decide) dX6_receive_41 rfl
theorem o_57_24 : ax_Ok 57 42 (ax_ret 0) := ok_ret0 rfl dX6_receive_42
theorem o_57_25 : ax_Ok 57 43 (ax_aload 3 26) := ok_aload_n rfl dX6_receive_43 rfl
theorem o_57_26 : ax_Ok 57 44 (ax_const 0 27) := ok_iconst (by decide) dX6_receive_44 rfl
theorem o_57_27 : ax_Ok 57 45 (ax_callV 3 25 1 28) := ok_callV (C := RX3) rfl rfl wd_391 wd_392 wd_393 wd_7 mo_25 (by decide) dX6_receive_45 rfl
theorem o_57_28 : ax_Ok 57 48 (ax_istore 4 29) := ok_istore (by decide) dX6_receive_48 rfl
theorem o_57_29 : ax_Ok 57 50 (ax_aload 2 30) := ok_aload_n rfl dX6_receive_50 rfl
theorem o_57_30 : ax_Ok 57 51 (ax_iload 4 31) := ok_iload dX6_receive_51 rfl
theorem o_57_31 : ax_Ok 57 53 (ax_callV 2 19 1 32) := ok_callV (C := RX2) rfl rfl wd_374 wd_375 wd_376 wd_5 mo_19 (by decide) dX6_receive_53 rfl
theorem o_57_32 : ax_Ok 57 56 (ax_if (fun x => decide (¬ x = 0)) 35 33) := ok_if_ne dX6_receive_56 (by decide) rfl
theorem o_57_33 : ax_Ok 57 59 (ax_const (-2) 34) := ok_bipush (by decide) dX6_receive_59 rfl
theorem o_57_34 : ax_Ok 57 61 (ax_ret 0) := ok_ret0 rfl dX6_receive_61
theorem o_57_35 : ax_Ok 57 62 (ax_aload 3 36) := ok_aload_n rfl dX6_receive_62 rfl
theorem o_57_36 : ax_Ok 57 63 (ax_callV 3 28 0 37) := ok_callV (C := RX3) rfl rfl wd_395 wd_396 wd_397 wd_7 mo_28 (by decide) dX6_receive_63 rfl
theorem o_57_37 : ax_Ok 57 66 (ax_aload 0 38) := ok_aload_n rfl dX6_receive_66 rfl
theorem o_57_38 : ax_Ok 57 67 (ax_dup 39) := ok_dup dX6_receive_67 rfl
theorem o_57_39 : ax_Ok 57 68 (ax_get 6 8 40) := ok_get (C := RX6) (T := TX6) (N := 9) rfl in_X6 (by decide) wd_125 rfl dX6_receive_68 rfl
theorem o_57_40 : ax_Ok 57 71 (ax_const 1 41) := ok_iconst (by decide) dX6_receive_71 rfl
theorem o_57_41 : ax_Ok 57 72 (ax_bin (fun x y => x + y) 42) := ok_iadd dX6_receive_72 rfl
theorem o_57_42 : ax_Ok 57 73 (ax_put 6 8 0 43) := ok_put (C := RX6) (T := TX6) (N := 9) rfl in_X6 tyX6 tyX6_ok nmX6 (by decide) wd_125 rfl rfl rfl dX6_receive_73 rfl
theorem o_57_43 : ax_Ok 57 76 (ax_iload 4 44) := ok_iload dX6_receive_76 rfl
theorem o_57_44 : ax_Ok 57 78 (ax_ret 0) := ok_ret0 rfl dX6_receive_78
theorem o_58_0 : ax_Ok 58 0 (ax_aload 0 1) := ok_aload_n rfl dX6_onTheWay_0 rfl
theorem o_58_1 : ax_Ok 58 1 (ax_iload 1 2) := ok_iload_n rfl dX6_onTheWay_1 rfl
theorem o_58_2 : ax_Ok 58 2 (ax_iload 2 3) := ok_iload_n rfl dX6_onTheWay_2 rfl
theorem o_58_3 : ax_Ok 58 3 (ax_callV 6 67 2 4) := ok_callV (C := RX6) rfl rfl wd_366 wd_368 wp_22 wd_1 mo_67 (by decide) dX6_onTheWay_3 rfl
theorem o_58_4 : ax_Ok 58 6 (ax_astore 3 5) := ok_astore_n rfl (by decide) dX6_onTheWay_6 rfl
theorem o_58_5 : ax_Ok 58 7 (ax_aload 3 6) := ok_aload_n rfl dX6_onTheWay_7 rfl
theorem o_58_6 : ax_Ok 58 8 (ax_ifnonnull 9 7) := ok_ifnonnull dX6_onTheWay_8 (by decide) rfl
theorem o_58_7 : ax_Ok 58 11 (ax_const (-1) 8) := ok_iconst (by decide) dX6_onTheWay_11 rfl
theorem o_58_8 : ax_Ok 58 12 (ax_goto 11) := ok_goto dX6_onTheWay_12 (by decide)
theorem o_58_9 : ax_Ok 58 15 (ax_aload 3 10) := ok_aload_n rfl dX6_onTheWay_15 rfl
theorem o_58_10 : ax_Ok 58 16 (ax_callV 3 23 0 11) := ok_callV (C := RX3) rfl rfl wd_387 wd_388 wd_389 wd_7 mo_23 (by decide) dX6_onTheWay_16 rfl
theorem o_58_11 : ax_Ok 58 19 (ax_ret 0) := ok_ret0 rfl dX6_onTheWay_19
theorem o_59_0 : ax_Ok 59 0 (ax_aload 0 1) := ok_aload_n rfl dX6_labelAt_0 rfl
theorem o_59_1 : ax_Ok 59 1 (ax_iload 1 2) := ok_iload_n rfl dX6_labelAt_1 rfl
theorem o_59_2 : ax_Ok 59 2 (ax_iload 2 3) := ok_iload_n rfl dX6_labelAt_2 rfl
theorem o_59_3 : ax_Ok 59 3 (ax_callV 6 67 2 4) := ok_callV (C := RX6) rfl rfl wd_366 wd_368 wp_22 wd_1 mo_67 (by decide) dX6_labelAt_3 rfl
theorem o_59_4 : ax_Ok 59 6 (ax_astore 4 5) := ok_astore (by decide) dX6_labelAt_6 rfl
theorem o_59_5 : ax_Ok 59 8 (ax_aload 4 6) := ok_aload dX6_labelAt_8 rfl
theorem o_59_6 : ax_Ok 59 10 (ax_ifnonnull 9 7) := ok_ifnonnull dX6_labelAt_10 (by decide) rfl
theorem o_59_7 : ax_Ok 59 13 (ax_const (-1) 8) := ok_iconst (by decide) dX6_labelAt_13 rfl
theorem o_59_8 : ax_Ok 59 14 (ax_goto 12) := ok_goto dX6_labelAt_14 (by decide)
theorem o_59_9 : ax_Ok 59 17 (ax_aload 4 10) := ok_aload dX6_labelAt_17 rfl
theorem o_59_10 : ax_Ok 59 19 (ax_iload 3 11) := ok_iload_n rfl dX6_labelAt_19 rfl
theorem o_59_11 : ax_Ok 59 20 (ax_callV 3 25 1 12) := ok_callV (C := RX3) rfl rfl wd_391 wd_392 wd_393 wd_7 mo_25 (by decide) dX6_labelAt_20 rfl
theorem o_59_12 : ax_Ok 59 23 (ax_ret 0) := ok_ret0 rfl dX6_labelAt_23
theorem o_60_0 : ax_Ok 60 0 (ax_aload 0 1) := ok_aload_n rfl dX6_moves_0 rfl
theorem o_60_1 : ax_Ok 60 1 (ax_get 6 7 2) := ok_get (C := RX6) (T := TX6) (N := 9) rfl in_X6 (by decide) wd_124 rfl dX6_moves_1 rfl
theorem o_60_2 : ax_Ok 60 4 (ax_if (fun x => decide (x = 0)) 6 3) := ok_if_eq dX6_moves_4 (by decide) rfl
theorem o_60_3 : ax_Ok 60 7 (ax_aload 0 4) := ok_aload_n rfl dX6_moves_7 rfl
theorem o_60_4 : ax_Ok 60 8 (ax_get 6 8 5) := ok_get (C := RX6) (T := TX6) (N := 9) rfl in_X6 (by decide) wd_125 rfl dX6_moves_8 rfl
theorem o_60_5 : ax_Ok 60 11 (ax_goto 7) := ok_goto dX6_moves_11 (by decide)
theorem o_60_6 : ax_Ok 60 14 (ax_const (-1) 7) := ok_iconst (by decide) dX6_moves_14 rfl
theorem o_60_7 : ax_Ok 60 15 (ax_ret 0) := ok_ret0 rfl dX6_moves_15
theorem o_61_0 : ax_Ok 61 0 (ax_aload 0 1) := ok_aload_n rfl dX6_ready_0 rfl
theorem o_61_1 : ax_Ok 61 1 (ax_get 6 7 2) := ok_get (C := RX6) (T := TX6) (N := 9) rfl in_X6 (by decide) wd_124 rfl dX6_ready_1 rfl
theorem o_61_2 : ax_Ok 61 4 (ax_if (fun x => decide (¬ x = 0)) 5 3) := ok_if_ne dX6_ready_4 (by decide) rfl
theorem o_61_3 : ax_Ok 61 7 (ax_const (-1) 4) := ok_iconst (by decide) dX6_ready_7 rfl
theorem o_61_4 : ax_Ok 61 8 (ax_ret 0) := ok_ret0 rfl dX6_ready_8
theorem o_61_5 : ax_Ok 61 9 (ax_const 0 6) := ok_iconst (by decide) dX6_ready_9 rfl
theorem o_61_6 : ax_Ok 61 10 (ax_istore 1 7) := ok_istore_n rfl (by decide) dX6_ready_10 rfl
theorem o_61_7 : ax_Ok 61 11 (ax_const 0 8) := ok_iconst (by decide) dX6_ready_11 rfl
theorem o_61_8 : ax_Ok 61 12 (ax_istore 2 9) := ok_istore_n rfl (by decide) dX6_ready_12 rfl
theorem o_61_9 : ax_Ok 61 13 (ax_iload 2 10) := ok_iload_n rfl dX6_ready_13 rfl
theorem o_61_10 : ax_Ok 61 14 (ax_const 4 11) := ok_iconst (by decide) dX6_ready_14 rfl
theorem o_61_11 : ax_Ok 61 15 (ax_icmp (fun x y => decide (y ≤ x)) 19 12) := ok_icmp_ge dX6_ready_15 (by decide) rfl
theorem o_61_12 : ax_Ok 61 18 (ax_aload 0 13) := ok_aload_n rfl dX6_ready_18 rfl
theorem o_61_13 : ax_Ok 61 19 (ax_iload 2 14) := ok_iload_n rfl dX6_ready_19 rfl
theorem o_61_14 : ax_Ok 61 20 (ax_callV 6 68 1 15) := ok_callV (C := RX6) rfl rfl wd_415 wd_417 wp_23 wd_1 mo_68 (by decide) dX6_ready_20 rfl
theorem o_61_15 : ax_Ok 61 23 (ax_if (fun x => decide (x = 0)) 17 16) := ok_if_eq dX6_ready_23 (by decide) rfl
theorem o_61_16 : ax_Ok 61 26 (ax_iinc 1 1 17) := ok_iinc (by decide) (by decide) dX6_ready_26 rfl
theorem o_61_17 : ax_Ok 61 29 (ax_iinc 2 1 18) := ok_iinc (by decide) (by decide) dX6_ready_29 rfl
theorem o_61_18 : ax_Ok 61 32 (ax_goto 9) := ok_goto dX6_ready_32 (by decide)
theorem o_61_19 : ax_Ok 61 35 (ax_iload 1 20) := ok_iload_n rfl dX6_ready_35 rfl
theorem o_61_20 : ax_Ok 61 36 (ax_ret 0) := ok_ret0 rfl dX6_ready_36
theorem o_62_0 : ax_Ok 62 0 (ax_aload 0 1) := ok_aload_n rfl dX6_over_0 rfl
theorem o_62_1 : ax_Ok 62 1 (ax_get 6 7 2) := ok_get (C := RX6) (T := TX6) (N := 9) rfl in_X6 (by decide) wd_124 rfl dX6_over_1 rfl
theorem o_62_2 : ax_Ok 62 4 (ax_if (fun x => decide (x = 0)) 11 3) := ok_if_eq dX6_over_4 (by decide) rfl
theorem o_62_3 : ax_Ok 62 7 (ax_aload 0 4) := ok_aload_n rfl dX6_over_7 rfl
theorem o_62_4 : ax_Ok 62 8 (ax_callV 6 69 0 5) := ok_callV (C := RX6) rfl rfl wd_423 wd_425 wp_24 wd_1 mo_69 (by decide) dX6_over_8 rfl
theorem o_62_5 : ax_Ok 62 11 (ax_if (fun x => decide (x = 0)) 11 6) := ok_if_eq dX6_over_11 (by decide) rfl
theorem o_62_6 : ax_Ok 62 14 (ax_aload 0 7) := ok_aload_n rfl dX6_over_14 rfl
theorem o_62_7 : ax_Ok 62 15 (ax_callV 6 70 0 8) := ok_callV (C := RX6) rfl rfl wd_427 wd_429 wp_25 wd_1 mo_70 (by decide) dX6_over_15 rfl
theorem o_62_8 : ax_Ok 62 18 (ax_if (fun x => decide (x = 0)) 11 9) := ok_if_eq dX6_over_18 (by decide) rfl
theorem o_62_9 : ax_Ok 62 21 (ax_const 1 10) := ok_iconst (by decide) dX6_over_21 rfl
theorem o_62_10 : ax_Ok 62 22 (ax_goto 12) := ok_goto dX6_over_22 (by decide)
theorem o_62_11 : ax_Ok 62 25 (ax_const 0 12) := ok_iconst (by decide) dX6_over_25 rfl
theorem o_62_12 : ax_Ok 62 26 (ax_ret 1) := ok_ret1 rfl dX6_over_26
theorem o_63_0 : ax_Ok 63 0 (ax_aload 0 1) := ok_aload_n rfl dX6_judgeTyped_0 rfl
theorem o_63_1 : ax_Ok 63 1 (ax_get 6 1 2) := ok_get (C := RX6) (T := TX6) (N := 9) rfl in_X6 (by decide) wd_118 rfl dX6_judgeTyped_1 rfl
theorem o_63_2 : ax_Ok 63 4 (ax_aload 0 3) := ok_aload_n rfl dX6_judgeTyped_4 rfl
theorem o_63_3 : ax_Ok 63 5 (ax_get 6 0 4) := ok_get (C := RX6) (T := TX6) (N := 9) rfl in_X6 (by decide) wd_117 rfl dX6_judgeTyped_5 rfl
theorem o_63_4 : ax_Ok 63 8 (ax_callV 0 1 1 5) := ok_callV (C := RX0) rfl rfl wd_165 wd_166 wd_167 wd_3 mo_1 (by decide) dX6_judgeTyped_8 rfl
theorem o_63_5 : ax_Ok 63 11 (ax_istore 1 6) := ok_istore_n rfl (by decide) dX6_judgeTyped_11 rfl
theorem o_63_6 : ax_Ok 63 12 (ax_iload 1 7) := ok_iload_n rfl dX6_judgeTyped_12 rfl
theorem o_63_7 : ax_Ok 63 13 (ax_const (-1) 8) := ok_iconst (by decide) dX6_judgeTyped_13 rfl
theorem o_63_8 : ax_Ok 63 14 (ax_icmp (fun x y => decide (x = y)) 11 9) := ok_icmp_eq dX6_judgeTyped_14 (by decide) rfl
theorem o_63_9 : ax_Ok 63 17 (ax_iload 1 10) := ok_iload_n rfl dX6_judgeTyped_17 rfl
theorem o_63_10 : ax_Ok 63 18 (ax_ret 0) := ok_ret0 rfl dX6_judgeTyped_18
theorem o_63_11 : ax_Ok 63 19 (ax_aload 0 12) := ok_aload_n rfl dX6_judgeTyped_19 rfl
theorem o_63_12 : ax_Ok 63 20 (ax_get 6 2 13) := ok_get (C := RX6) (T := TX6) (N := 9) rfl in_X6 (by decide) wd_119 rfl dX6_judgeTyped_20 rfl
theorem o_63_13 : ax_Ok 63 23 (ax_aload 0 14) := ok_aload_n rfl dX6_judgeTyped_23 rfl
theorem o_63_14 : ax_Ok 63 24 (ax_get 6 0 15) := ok_get (C := RX6) (T := TX6) (N := 9) rfl in_X6 (by decide) wd_117 rfl dX6_judgeTyped_24 rfl
theorem o_63_15 : ax_Ok 63 27 (ax_callV 4 30 1 16) := ok_callV (C := RX4) rfl rfl wd_202 wd_203 wd_204 wd_4 mo_30 (by decide) dX6_judgeTyped_27 rfl
theorem o_63_16 : ax_Ok 63 30 (ax_if (fun x => decide (x = 0)) 19 17) := ok_if_eq dX6_judgeTyped_30 (by decide) rfl
theorem o_63_17 : ax_Ok 63 33 (ax_const (-1) 18) := ok_iconst (by decide) dX6_judgeTyped_33 rfl
theorem o_63_18 : ax_Ok 63 34 (ax_goto 20) := ok_goto dX6_judgeTyped_34 (by decide)
theorem o_63_19 : ax_Ok 63 37 (ax_const (-2) 20) := ok_bipush (by decide) dX6_judgeTyped_37 rfl
theorem o_63_20 : ax_Ok 63 39 (ax_ret 0) := ok_ret0 rfl dX6_judgeTyped_39
theorem o_64_0 : ax_Ok 64 0 (ax_aload 0 1) := ok_aload_n rfl dX6_adoptTyped_0 rfl
theorem o_64_1 : ax_Ok 64 1 (ax_aload 0 2) := ok_aload_n rfl dX6_adoptTyped_1 rfl
theorem o_64_2 : ax_Ok 64 2 (ax_get 6 0 3) := ok_get (C := RX6) (T := TX6) (N := 9) rfl in_X6 (by decide) wd_117 rfl dX6_adoptTyped_2 rfl
theorem o_64_3 : ax_Ok 64 5 (ax_const 123 4) := ok_bipush (by decide) dX6_adoptTyped_5 rfl
theorem o_64_4 : ax_Ok 64 7 (ax_callV 5 43 1 5) := ok_callV (C := RX5) rfl rfl wd_237 wd_238 wd_239 wd_2 mo_43 (by decide) dX6_adoptTyped_7 rfl
theorem o_64_5 : ax_Ok 64 10 (ax_put 6 6 0 6) := ok_put (C := RX6) (T := TX6) (N := 9) rfl in_X6 tyX6 tyX6_ok nmX6 (by decide) wd_123 rfl rfl rfl dX6_adoptTyped_10 rfl
theorem o_64_6 : ax_Ok 64 13 (ax_const 0 7) := ok_iconst (by decide) dX6_adoptTyped_13 rfl
theorem o_64_7 : ax_Ok 64 14 (ax_istore 1 8) := ok_istore_n rfl (by decide) dX6_adoptTyped_14 rfl
theorem o_64_8 : ax_Ok 64 15 (ax_iload 1 9) := ok_iload_n rfl dX6_adoptTyped_15 rfl
theorem o_64_9 : ax_Ok 64 16 (ax_const 4 10) := ok_iconst (by decide) dX6_adoptTyped_16 rfl
theorem o_64_10 : ax_Ok 64 17 (ax_icmp (fun x y => decide (y ≤ x)) 23 11) := ok_icmp_ge dX6_adoptTyped_17 (by decide) rfl
theorem o_64_11 : ax_Ok 64 20 (ax_aload 0 12) := ok_aload_n rfl dX6_adoptTyped_20 rfl
theorem o_64_12 : ax_Ok 64 21 (ax_get 6 3 13) := ok_get (C := RX6) (T := TX6) (N := 9) rfl in_X6 (by decide) wd_120 rfl dX6_adoptTyped_21 rfl
theorem o_64_13 : ax_Ok 64 24 (ax_iload 1 14) := ok_iload_n rfl dX6_adoptTyped_24 rfl
theorem o_64_14 : ax_Ok 64 25 (ax_aald 15) := ok_aald dX6_adoptTyped_25 rfl
theorem o_64_15 : ax_Ok 64 26 (ax_aload 0 16) := ok_aload_n rfl dX6_adoptTyped_26 rfl
theorem o_64_16 : ax_Ok 64 27 (ax_get 6 4 17) := ok_get (C := RX6) (T := TX6) (N := 9) rfl in_X6 (by decide) wd_121 rfl dX6_adoptTyped_27 rfl
theorem o_64_17 : ax_Ok 64 30 (ax_iload 1 18) := ok_iload_n rfl dX6_adoptTyped_30 rfl
theorem o_64_18 : ax_Ok 64 31 (ax_aald 19) := ok_aald dX6_adoptTyped_31 rfl
theorem o_64_19 : ax_Ok 64 32 (ax_callV 1 7 0 20) := ok_callV (C := RX1) rfl rfl wd_242 wd_243 wd_244 wd_6 mo_7 (by decide) dX6_adoptTyped_32 rfl
theorem o_64_20 : ax_Ok 64 35 (ax_put 2 1 1 21) := ok_putN (C := RX2) (T := TX2) (N := 3) rfl in_X2 tyX2 tyX2_ok nmX2 (by decide) wn_78 rfl rfl rfl dX6_adoptTyped_35 rfl
theorem o_64_21 : ax_Ok 64 38 (ax_iinc 1 1 22) := ok_iinc (by decide) (by decide) dX6_adoptTyped_38 rfl
theorem o_64_22 : ax_Ok 64 41 (ax_goto 8) := ok_goto dX6_adoptTyped_41 (by decide)
theorem o_64_23 : ax_Ok 64 44 (ax_aload 0 24) := ok_aload_n rfl dX6_adoptTyped_44 rfl
theorem o_64_24 : ax_Ok 64 45 (ax_const 0 25) := ok_iconst (by decide) dX6_adoptTyped_45 rfl
theorem o_64_25 : ax_Ok 64 46 (ax_put 6 7 1 26) := ok_put (C := RX6) (T := TX6) (N := 9) rfl in_X6 tyX6 tyX6_ok nmX6 (by decide) wd_124 rfl rfl rfl dX6_adoptTyped_46 rfl
theorem o_64_26 : ax_Ok 64 49 (ax_retv) := ok_retv rfl dX6_adoptTyped_49
theorem o_65_0 : ax_Ok 65 0 (ax_iload 1 1) := ok_iload_n rfl dX6_hasPart_0 rfl
theorem o_65_1 : ax_Ok 65 1 (ax_callS 71 1 2) := ok_callS wd_300 wd_301 wd_1 mo_71 dX6_hasPart_1 rfl
theorem o_65_2 : ax_Ok 65 4 (ax_if (fun x => decide (x = 0)) 11 3) := ok_if_eq dX6_hasPart_4 (by decide) rfl
theorem o_65_3 : ax_Ok 65 7 (ax_aload 0 4) := ok_aload_n rfl dX6_hasPart_7 rfl
theorem o_65_4 : ax_Ok 65 8 (ax_get 6 3 5) := ok_get (C := RX6) (T := TX6) (N := 9) rfl in_X6 (by decide) wd_120 rfl dX6_hasPart_8 rfl
theorem o_65_5 : ax_Ok 65 11 (ax_iload 1 6) := ok_iload_n rfl dX6_hasPart_11 rfl
theorem o_65_6 : ax_Ok 65 12 (ax_aald 7) := ok_aald dX6_hasPart_12 rfl
theorem o_65_7 : ax_Ok 65 13 (ax_get 2 1 8) := ok_getN (C := RX2) (T := TX2) (N := 3) rfl in_X2 (by decide) wn_78 rfl dX6_hasPart_13 rfl
theorem o_65_8 : ax_Ok 65 16 (ax_if (fun x => decide (x = 0)) 11 9) := ok_if_eq dX6_hasPart_16 (by decide) rfl
theorem o_65_9 : ax_Ok 65 19 (ax_const 1 10) := ok_iconst (by decide) dX6_hasPart_19 rfl
theorem o_65_10 : ax_Ok 65 20 (ax_goto 12) := ok_goto dX6_hasPart_20 (by decide)
theorem o_65_11 : ax_Ok 65 23 (ax_const 0 12) := ok_iconst (by decide) dX6_hasPart_23 rfl
theorem o_65_12 : ax_Ok 65 24 (ax_ret 1) := ok_ret1 rfl dX6_hasPart_24
theorem o_66_0 : ax_Ok 66 0 (ax_aload 0 1) := ok_aload_n rfl dX6_playing_0 rfl
theorem o_66_1 : ax_Ok 66 1 (ax_get 6 7 2) := ok_get (C := RX6) (T := TX6) (N := 9) rfl in_X6 (by decide) wd_124 rfl dX6_playing_1 rfl
theorem o_66_2 : ax_Ok 66 4 (ax_if (fun x => decide (x = 0)) 11 3) := ok_if_eq dX6_playing_4 (by decide) rfl
theorem o_66_3 : ax_Ok 66 7 (ax_iload 1 4) := ok_iload_n rfl dX6_playing_7 rfl
theorem o_66_4 : ax_Ok 66 8 (ax_callS 71 1 5) := ok_callS wd_300 wd_301 wd_1 mo_71 dX6_playing_8 rfl
theorem o_66_5 : ax_Ok 66 11 (ax_if (fun x => decide (x = 0)) 11 6) := ok_if_eq dX6_playing_11 (by decide) rfl
theorem o_66_6 : ax_Ok 66 14 (ax_aload 0 7) := ok_aload_n rfl dX6_playing_14 rfl
theorem o_66_7 : ax_Ok 66 15 (ax_get 6 3 8) := ok_get (C := RX6) (T := TX6) (N := 9) rfl in_X6 (by decide) wd_120 rfl dX6_playing_15 rfl
theorem o_66_8 : ax_Ok 66 18 (ax_iload 1 9) := ok_iload_n rfl dX6_playing_18 rfl
theorem o_66_9 : ax_Ok 66 19 (ax_aald 10) := ok_aald dX6_playing_19 rfl
theorem o_66_10 : ax_Ok 66 20 (ax_goto 12) := ok_goto dX6_playing_20 (by decide)
theorem o_66_11 : ax_Ok 66 23 (ax_null 12) := ok_null dX6_playing_23 rfl
theorem o_66_12 : ax_Ok 66 24 (ax_ret 3) := ok_ret3 rfl dX6_playing_24
theorem o_67_0 : ax_Ok 67 0 (ax_aload 0 1) := ok_aload_n rfl dX6_rowBetween_0 rfl
theorem o_67_1 : ax_Ok 67 1 (ax_get 6 7 2) := ok_get (C := RX6) (T := TX6) (N := 9) rfl in_X6 (by decide) wd_124 rfl dX6_rowBetween_1 rfl
theorem o_67_2 : ax_Ok 67 4 (ax_if (fun x => decide (x = 0)) 11 3) := ok_if_eq dX6_rowBetween_4 (by decide) rfl
theorem o_67_3 : ax_Ok 67 7 (ax_iload 1 4) := ok_iload_n rfl dX6_rowBetween_7 rfl
theorem o_67_4 : ax_Ok 67 8 (ax_callS 71 1 5) := ok_callS wd_300 wd_301 wd_1 mo_71 dX6_rowBetween_8 rfl
theorem o_67_5 : ax_Ok 67 11 (ax_if (fun x => decide (x = 0)) 11 6) := ok_if_eq dX6_rowBetween_11 (by decide) rfl
theorem o_67_6 : ax_Ok 67 14 (ax_iload 2 7) := ok_iload_n rfl dX6_rowBetween_14 rfl
theorem o_67_7 : ax_Ok 67 15 (ax_callS 71 1 8) := ok_callS wd_300 wd_301 wd_1 mo_71 dX6_rowBetween_15 rfl
theorem o_67_8 : ax_Ok 67 18 (ax_if (fun x => decide (x = 0)) 11 9) := ok_if_eq dX6_rowBetween_18 (by decide) rfl
theorem o_67_9 : ax_Ok 67 21 (ax_const 1 10) := ok_iconst (by decide) dX6_rowBetween_21 rfl
theorem o_67_10 : ax_Ok 67 22 (ax_goto 12) := ok_goto dX6_rowBetween_22 (by decide)
theorem o_67_11 : ax_Ok 67 25 (ax_const 0 12) := ok_iconst (by decide) dX6_rowBetween_25 rfl
theorem o_67_12 : ax_Ok 67 26 (ax_istore 3 13) := ok_istore_n rfl (by decide) dX6_rowBetween_26 rfl
theorem o_67_13 : ax_Ok 67 27 (ax_iload 3 14) := ok_iload_n rfl dX6_rowBetween_27 rfl
theorem o_67_14 : ax_Ok 67 28 (ax_if (fun x => decide (x = 0)) 24 15) := ok_if_eq dX6_rowBetween_28 (by decide) rfl
theorem o_67_15 : ax_Ok 67 31 (ax_aload 0 16) := ok_aload_n rfl dX6_rowBetween_31 rfl
theorem o_67_16 : ax_Ok 67 32 (ax_get 6 5 17) := ok_get (C := RX6) (T := TX6) (N := 9) rfl in_X6 (by decide) wd_122 rfl dX6_rowBetween_32 rfl
theorem o_67_17 : ax_Ok 67 35 (ax_iload 1 18) := ok_iload_n rfl dX6_rowBetween_35 rfl
theorem o_67_18 : ax_Ok 67 36 (ax_const 4 19) := ok_iconst (by decide) dX6_rowBetween_36 rfl
theorem o_67_19 : ax_Ok 67 37 (ax_bin (fun x y => x * y) 20) := ok_imul dX6_rowBetween_37 rfl
theorem o_67_20 : ax_Ok 67 38 (ax_iload 2 21) := ok_iload_n rfl dX6_rowBetween_38 rfl
theorem o_67_21 : ax_Ok 67 39 (ax_bin (fun x y => x + y) 22) := ok_iadd dX6_rowBetween_39 rfl
theorem o_67_22 : ax_Ok 67 40 (ax_aald 23) := ok_aald dX6_rowBetween_40 rfl
theorem o_67_23 : ax_Ok 67 41 (ax_goto 25) := ok_goto dX6_rowBetween_41 (by decide)
theorem o_67_24 : ax_Ok 67 44 (ax_null 25) := ok_null dX6_rowBetween_44 rfl
theorem o_67_25 : ax_Ok 67 45 (ax_ret 3) := ok_ret3 rfl dX6_rowBetween_45
theorem o_68_0 : ax_Ok 68 0 (ax_aload 0 1) := ok_aload_n rfl dX6_canGoOn_0 rfl
theorem o_68_1 : ax_Ok 68 1 (ax_iload 1 2) := ok_iload_n rfl dX6_canGoOn_1 rfl
theorem o_68_2 : ax_Ok 68 2 (ax_callV 6 66 1 3) := ok_callV (C := RX6) rfl rfl wd_335 wd_337 wp_21 wd_1 mo_66 (by decide) dX6_canGoOn_2 rfl
theorem o_68_3 : ax_Ok 68 5 (ax_astore 2 4) := ok_astore_n rfl (by decide) dX6_canGoOn_5 rfl
theorem o_68_4 : ax_Ok 68 6 (ax_aload 2 5) := ok_aload_n rfl dX6_canGoOn_6 rfl
theorem o_68_5 : ax_Ok 68 7 (ax_ifnonnull 8 6) := ok_ifnonnull dX6_canGoOn_7 (by decide) rfl
theorem o_68_6 : ax_Ok 68 10 (ax_const 0 7) := ok_iconst (by decide) dX6_canGoOn_10 rfl
theorem o_68_7 : ax_Ok 68 11 (ax_ret 1) := ok_ret1 rfl dX6_canGoOn_11
theorem o_68_8 : ax_Ok 68 12 (ax_aload 2 9) := ok_aload_n rfl dX6_canGoOn_12 rfl
theorem o_68_9 : ax_Ok 68 13 (ax_callV 2 16 0 10) := ok_callV (C := RX2) rfl rfl wd_339 wd_340 wd_341 wd_5 mo_16 (by decide) dX6_canGoOn_13 rfl
theorem o_68_10 : ax_Ok 68 16 (ax_istore 3 11) := ok_istore_n rfl (by decide) dX6_canGoOn_16 rfl
theorem o_68_11 : ax_Ok 68 17 (ax_iload 3 12) := ok_iload_n rfl dX6_canGoOn_17 rfl
theorem o_68_12 : ax_Ok 68 18 (ax_const 1 13) := ok_iconst (by decide) dX6_canGoOn_18 rfl
theorem o_68_13 : ax_Ok 68 19 (ax_icmp (fun x y => decide (¬ x = y)) 29 14) := ok_icmp_ne dX6_canGoOn_19 (by decide) rfl
theorem o_68_14 : ax_Ok 68 22 (ax_aload 0 15) := ok_aload_n rfl dX6_canGoOn_22 rfl
theorem o_68_15 : ax_Ok 68 23 (ax_iload 1 16) := ok_iload_n rfl dX6_canGoOn_23 rfl
theorem o_68_16 : ax_Ok 68 24 (ax_aload 2 17) := ok_aload_n rfl dX6_canGoOn_24 rfl
theorem o_68_17 : ax_Ok 68 25 (ax_callV 2 17 0 18) := ok_callV (C := RX2) rfl rfl wd_348 wd_349 wd_350 wd_5 mo_17 (by decide) dX6_canGoOn_25 rfl
theorem o_68_18 : ax_Ok 68 28 (ax_callV 6 67 2 19) := ok_callV (C := RX6) rfl rfl wd_366 wd_368 wp_22 wd_1 mo_67 (by decide) dX6_canGoOn_28 rfl
theorem o_68_19 : ax_Ok 68 31 (ax_astore 4 20) := ok_astore (by decide) dX6_canGoOn_31 rfl
theorem o_68_20 : ax_Ok 68 33 (ax_aload 4 21) := ok_aload dX6_canGoOn_33 rfl
theorem o_68_21 : ax_Ok 68 35 (ax_ifnull 27 22) := ok_ifnull dX6_canGoOn_35 (by decide) rfl
theorem o_68_22 : ax_Ok 68 38 (ax_aload 4 23) := ok_aload dX6_canGoOn_38 rfl
theorem o_68_23 : ax_Ok 68 40 (ax_callV 3 24 0 24) := ok_callV (C := RX3) rfl rfl wd_370 wd_371 wd_372 wd_7 mo_24 (by decide) dX6_canGoOn_40 rfl
theorem o_68_24 : ax_Ok 68 43 (ax_if (fun x => decide (¬ x = 0)) 27 25) := ok_if_ne dX6_canGoOn_43 (by decide) rfl
theorem o_68_25 : ax_Ok 68 46 (ax_const 1 26) := ok_iconst (by decide) dX6_canGoOn_46 rfl
theorem o_68_26 : ax_Ok 68 47 (ax_goto 28) := ok_goto dX6_canGoOn_47 (by decide)
theorem o_68_27 : ax_Ok 68 50 (ax_const 0 28) := ok_iconst (by decide) dX6_canGoOn_50 rfl
theorem o_68_28 : ax_Ok 68 51 (ax_ret 1) := ok_ret1 rfl dX6_canGoOn_51
theorem o_68_29 : ax_Ok 68 52 (ax_iload 3 30) := ok_iload_n rfl dX6_canGoOn_52 rfl
theorem o_68_30 : ax_Ok 68 53 (ax_const 2 31) := ok_iconst (by decide) dX6_canGoOn_53 rfl
theorem o_68_31 : ax_Ok 68 54 (ax_icmp (fun x y => decide (¬ x = y)) 51 32) := ok_icmp_ne dX6_canGoOn_54 (by decide) rfl
theorem o_68_32 : ax_Ok 68 57 (ax_aload 0 33) := ok_aload_n rfl dX6_canGoOn_57 rfl
theorem o_68_33 : ax_Ok 68 58 (ax_aload 2 34) := ok_aload_n rfl dX6_canGoOn_58 rfl
theorem o_68_34 : ax_Ok 68 59 (ax_callV 2 17 0 35) := ok_callV (C := RX2) rfl rfl wd_348 wd_349 wd_350 wd_5 mo_17 (by decide) dX6_canGoOn_59 rfl
theorem o_68_35 : ax_Ok 68 62 (ax_iload 1 36) := ok_iload_n rfl dX6_canGoOn_62 rfl
theorem o_68_36 : ax_Ok 68 63 (ax_callV 6 67 2 37) := ok_callV (C := RX6) rfl rfl wd_366 wd_368 wp_22 wd_1 mo_67 (by decide) dX6_canGoOn_63 rfl
theorem o_68_37 : ax_Ok 68 66 (ax_astore 4 38) := ok_astore (by decide) dX6_canGoOn_66 rfl
theorem o_68_38 : ax_Ok 68 68 (ax_aload 4 39) := ok_aload dX6_canGoOn_68 rfl
theorem o_68_39 : ax_Ok 68 70 (ax_ifnull 49 40) := ok_ifnull dX6_canGoOn_70 (by decide) rfl
theorem o_68_40 : ax_Ok 68 73 (ax_aload 2 41) := ok_aload_n rfl dX6_canGoOn_73 rfl
theorem o_68_41 : ax_Ok 68 74 (ax_aload 4 42) := ok_aload dX6_canGoOn_74 rfl
theorem o_68_42 : ax_Ok 68 76 (ax_const 0 43) := ok_iconst (by decide) dX6_canGoOn_76 rfl
theorem o_68_43 : ax_Ok 68 77 (ax_callV 3 25 1 44) := ok_callV (C := RX3) rfl rfl wd_391 wd_392 wd_393 wd_7 mo_25 (by decide) dX6_canGoOn_77 rfl
theorem o_68_44 : ax_Ok 68 80 (ax_callV 2 18 1 45) := ok_callV (C := RX2) rfl rfl wd_356 wd_357 wd_358 wd_5 mo_18 (by decide) dX6_canGoOn_80 rfl
theorem o_68_45 : ax_Ok 68 83 (ax_const (-1) 46) := ok_iconst (by decide) dX6_canGoOn_83 rfl
theorem o_68_46 : ax_Ok 68 84 (ax_icmp (fun x y => decide (x = y)) 49 47) := ok_icmp_eq dX6_canGoOn_84 (by decide) rfl
theorem o_68_47 : ax_Ok 68 87 (ax_const 1 48) := ok_iconst (by decide) dX6_canGoOn_87 rfl
theorem o_68_48 : ax_Ok 68 88 (ax_goto 50) := ok_goto dX6_canGoOn_88 (by decide)
theorem o_68_49 : ax_Ok 68 91 (ax_const 0 50) := ok_iconst (by decide) dX6_canGoOn_91 rfl
theorem o_68_50 : ax_Ok 68 92 (ax_ret 1) := ok_ret1 rfl dX6_canGoOn_92
theorem o_68_51 : ax_Ok 68 93 (ax_const 0 52) := ok_iconst (by decide) dX6_canGoOn_93 rfl
theorem o_68_52 : ax_Ok 68 94 (ax_ret 1) := ok_ret1 rfl dX6_canGoOn_94
theorem o_69_0 : ax_Ok 69 0 (ax_const 0 1) := ok_iconst (by decide) dX6_allEnded_0 rfl
theorem o_69_1 : ax_Ok 69 1 (ax_istore 1 2) := ok_istore_n rfl (by decide) dX6_allEnded_1 rfl
theorem o_69_2 : ax_Ok 69 2 (ax_iload 1 3) := ok_iload_n rfl dX6_allEnded_2 rfl
theorem o_69_3 : ax_Ok 69 3 (ax_const 4 4) := ok_iconst (by decide) dX6_allEnded_3 rfl
theorem o_69_4 : ax_Ok 69 4 (ax_icmp (fun x y => decide (y ≤ x)) 15 5) := ok_icmp_ge dX6_allEnded_4 (by decide) rfl
theorem o_69_5 : ax_Ok 69 7 (ax_aload 0 6) := ok_aload_n rfl dX6_allEnded_7 rfl
theorem o_69_6 : ax_Ok 69 8 (ax_get 6 3 7) := ok_get (C := RX6) (T := TX6) (N := 9) rfl in_X6 (by decide) wd_120 rfl dX6_allEnded_8 rfl
theorem o_69_7 : ax_Ok 69 11 (ax_iload 1 8) := ok_iload_n rfl dX6_allEnded_11 rfl
theorem o_69_8 : ax_Ok 69 12 (ax_aald 9) := ok_aald dX6_allEnded_12 rfl
theorem o_69_9 : ax_Ok 69 13 (ax_callV 2 16 0 10) := ok_callV (C := RX2) rfl rfl wd_339 wd_340 wd_341 wd_5 mo_16 (by decide) dX6_allEnded_13 rfl
theorem o_69_10 : ax_Ok 69 16 (ax_if (fun x => decide (x = 0)) 13 11) := ok_if_eq dX6_allEnded_16 (by decide) rfl
theorem o_69_11 : ax_Ok 69 19 (ax_const 0 12) := ok_iconst (by decide) dX6_allEnded_19 rfl
theorem o_69_12 : ax_Ok 69 20 (ax_ret 1) := ok_ret1 rfl dX6_allEnded_20
theorem o_69_13 : ax_Ok 69 21 (ax_iinc 1 1 14) := ok_iinc (by decide) (by decide) dX6_allEnded_21 rfl
theorem o_69_14 : ax_Ok 69 24 (ax_goto 2) := ok_goto dX6_allEnded_24 (by decide)
theorem o_69_15 : ax_Ok 69 27 (ax_const 1 16) := ok_iconst (by decide) dX6_allEnded_27 rfl
theorem o_69_16 : ax_Ok 69 28 (ax_ret 1) := ok_ret1 rfl dX6_allEnded_28
theorem o_70_0 : ax_Ok 70 0 (ax_const 0 1) := ok_iconst (by decide) dX6_nothingOnTheWay_0 rfl
theorem o_70_1 : ax_Ok 70 1 (ax_istore 1 2) := ok_istore_n rfl (by decide) dX6_nothingOnTheWay_1 rfl
theorem o_70_2 : ax_Ok 70 2 (ax_iload 1 3) := ok_iload_n rfl dX6_nothingOnTheWay_2 rfl
theorem o_70_3 : ax_Ok 70 3 (ax_const 16 4) := ok_bipush (by decide) dX6_nothingOnTheWay_3 rfl
theorem o_70_4 : ax_Ok 70 5 (ax_icmp (fun x y => decide (y ≤ x)) 15 5) := ok_icmp_ge dX6_nothingOnTheWay_5 (by decide) rfl
theorem o_70_5 : ax_Ok 70 8 (ax_aload 0 6) := ok_aload_n rfl dX6_nothingOnTheWay_8 rfl
theorem o_70_6 : ax_Ok 70 9 (ax_get 6 5 7) := ok_get (C := RX6) (T := TX6) (N := 9) rfl in_X6 (by decide) wd_122 rfl dX6_nothingOnTheWay_9 rfl
theorem o_70_7 : ax_Ok 70 12 (ax_iload 1 8) := ok_iload_n rfl dX6_nothingOnTheWay_12 rfl
theorem o_70_8 : ax_Ok 70 13 (ax_aald 9) := ok_aald dX6_nothingOnTheWay_13 rfl
theorem o_70_9 : ax_Ok 70 14 (ax_callV 3 23 0 10) := ok_callV (C := RX3) rfl rfl wd_387 wd_388 wd_389 wd_7 mo_23 (by decide) dX6_nothingOnTheWay_14 rfl
theorem o_70_10 : ax_Ok 70 17 (ax_if (fun x => decide (x = 0)) 13 11) := ok_if_eq dX6_nothingOnTheWay_17 (by decide) rfl
theorem o_70_11 : ax_Ok 70 20 (ax_const 0 12) := ok_iconst (by decide) dX6_nothingOnTheWay_20 rfl
theorem o_70_12 : ax_Ok 70 21 (ax_ret 1) := ok_ret1 rfl dX6_nothingOnTheWay_21
theorem o_70_13 : ax_Ok 70 22 (ax_iinc 1 1 14) := ok_iinc (by decide) (by decide) dX6_nothingOnTheWay_22 rfl
theorem o_70_14 : ax_Ok 70 25 (ax_goto 2) := ok_goto dX6_nothingOnTheWay_25 (by decide)
theorem o_70_15 : ax_Ok 70 28 (ax_const 1 16) := ok_iconst (by decide) dX6_nothingOnTheWay_28 rfl
theorem o_70_16 : ax_Ok 70 29 (ax_ret 1) := ok_ret1 rfl dX6_nothingOnTheWay_29
theorem o_71_0 : ax_Ok 71 0 (ax_iload 0 1) := ok_iload_n rfl dX6_isRoleNumber_0 rfl
theorem o_71_1 : ax_Ok 71 1 (ax_if (fun x => decide (x < 0)) 7 2) := ok_if_lt dX6_isRoleNumber_1 (by decide) rfl
theorem o_71_2 : ax_Ok 71 4 (ax_iload 0 3) := ok_iload_n rfl dX6_isRoleNumber_4 rfl
theorem o_71_3 : ax_Ok 71 5 (ax_const 4 4) := ok_iconst (by decide) dX6_isRoleNumber_5 rfl
theorem o_71_4 : ax_Ok 71 6 (ax_icmp (fun x y => decide (y ≤ x)) 7 5) := ok_icmp_ge dX6_isRoleNumber_6 (by decide) rfl
theorem o_71_5 : ax_Ok 71 9 (ax_const 1 6) := ok_iconst (by decide) dX6_isRoleNumber_9 rfl
theorem o_71_6 : ax_Ok 71 10 (ax_goto 8) := ok_goto dX6_isRoleNumber_10 (by decide)
theorem o_71_7 : ax_Ok 71 13 (ax_const 0 8) := ok_iconst (by decide) dX6_isRoleNumber_13 rfl
theorem o_71_8 : ax_Ok 71 14 (ax_ret 1) := ok_ret1 rfl dX6_isRoleNumber_14
theorem o_72_0 : ax_Ok 72 0 (ax_iload 0 1) := ok_iload_n rfl dX6_isRole_0 rfl
theorem o_72_1 : ax_Ok 72 1 (ax_const 65 2) := ok_bipush (by decide) dX6_isRole_1 rfl
theorem o_72_2 : ax_Ok 72 3 (ax_icmp (fun x y => decide (x < y)) 8 3) := ok_icmp_lt dX6_isRole_3 (by decide) rfl
theorem o_72_3 : ax_Ok 72 6 (ax_iload 0 4) := ok_iload_n rfl dX6_isRole_6 rfl
theorem o_72_4 : ax_Ok 72 7 (ax_const 69 5) := ok_bipush (by decide) dX6_isRole_7 rfl
theorem o_72_5 : ax_Ok 72 9 (ax_icmp (fun x y => decide (y ≤ x)) 8 6) := ok_icmp_ge dX6_isRole_9 (by decide) rfl
theorem o_72_6 : ax_Ok 72 12 (ax_const 1 7) := ok_iconst (by decide) dX6_isRole_12 rfl
theorem o_72_7 : ax_Ok 72 13 (ax_goto 9) := ok_goto dX6_isRole_13 (by decide)
theorem o_72_8 : ax_Ok 72 16 (ax_const 0 9) := ok_iconst (by decide) dX6_isRole_16 rfl
theorem o_72_9 : ax_Ok 72 17 (ax_ret 1) := ok_ret1 rfl dX6_isRole_17
theorem o_73_0 : ax_Ok 73 0 (ax_iload 0 1) := ok_iload_n rfl dX6_isLabel_0 rfl
theorem o_73_1 : ax_Ok 73 1 (ax_const 112 2) := ok_bipush (by decide) dX6_isLabel_1 rfl
theorem o_73_2 : ax_Ok 73 3 (ax_icmp (fun x y => decide (x < y)) 8 3) := ok_icmp_lt dX6_isLabel_3 (by decide) rfl
theorem o_73_3 : ax_Ok 73 6 (ax_iload 0 4) := ok_iload_n rfl dX6_isLabel_6 rfl
theorem o_73_4 : ax_Ok 73 7 (ax_const 118 5) := ok_bipush (by decide) dX6_isLabel_7 rfl
theorem o_73_5 : ax_Ok 73 9 (ax_icmp (fun x y => decide (y ≤ x)) 8 6) := ok_icmp_ge dX6_isLabel_9 (by decide) rfl
theorem o_73_6 : ax_Ok 73 12 (ax_const 1 7) := ok_iconst (by decide) dX6_isLabel_12 rfl
theorem o_73_7 : ax_Ok 73 13 (ax_goto 9) := ok_goto dX6_isLabel_13 (by decide)
theorem o_73_8 : ax_Ok 73 16 (ax_const 0 9) := ok_iconst (by decide) dX6_isLabel_16 rfl
theorem o_73_9 : ax_Ok 73 17 (ax_ret 1) := ok_ret1 rfl dX6_isLabel_17
theorem o_74_0 : ax_Ok 74 0 (ax_iload 0 1) := ok_iload_n rfl dX6_isVariable_0 rfl
theorem o_74_1 : ax_Ok 74 1 (ax_const 88 2) := ok_bipush (by decide) dX6_isVariable_1 rfl
theorem o_74_2 : ax_Ok 74 3 (ax_icmp (fun x y => decide (x < y)) 8 3) := ok_icmp_lt dX6_isVariable_3 (by decide) rfl
theorem o_74_3 : ax_Ok 74 6 (ax_iload 0 4) := ok_iload_n rfl dX6_isVariable_6 rfl
theorem o_74_4 : ax_Ok 74 7 (ax_const 91 5) := ok_bipush (by decide) dX6_isVariable_7 rfl
theorem o_74_5 : ax_Ok 74 9 (ax_icmp (fun x y => decide (y ≤ x)) 8 6) := ok_icmp_ge dX6_isVariable_9 (by decide) rfl
theorem o_74_6 : ax_Ok 74 12 (ax_const 1 7) := ok_iconst (by decide) dX6_isVariable_12 rfl
theorem o_74_7 : ax_Ok 74 13 (ax_goto 9) := ok_goto dX6_isVariable_13 (by decide)
theorem o_74_8 : ax_Ok 74 16 (ax_const 0 9) := ok_iconst (by decide) dX6_isVariable_16 rfl
theorem o_74_9 : ax_Ok 74 17 (ax_ret 1) := ok_ret1 rfl dX6_isVariable_17
theorem o_75_0 : ax_Ok 75 0 (ax_aload 0 1) := ok_aload_n rfl dX7_init_0 rfl
theorem o_75_1 : ax_Ok 75 1 (ax_obj 2) := ok_obj wd_436 wd_15 wd_obj dX7_init_1 rfl
theorem o_75_2 : ax_Ok 75 4 (ax_aload 0 3) := ok_aload_n rfl dX7_init_4 rfl
theorem o_75_3 : ax_Ok 75 5 (ax_const 60 4) := ok_bipush (by decide) dX7_init_5 rfl
theorem o_75_4 : ax_Ok 75 7 (ax_newa 1 5) := ok_newa1 wd_30 dX7_init_7 rfl
theorem o_75_5 : ax_Ok 75 9 (ax_put 7 1 3 6) := ok_putF (C := RX7) (T := TX7) (N := 19) rfl in_X7 tyX7 tyX7_ok nmX7 (by decide) wd_438 rfl rfl rfl rfl rfl dX7_init_9 rfl
theorem o_75_6 : ax_Ok 75 12 (ax_aload 0 7) := ok_aload_n rfl dX7_init_12 rfl
theorem o_75_7 : ax_Ok 75 13 (ax_const 60 8) := ok_bipush (by decide) dX7_init_13 rfl
theorem o_75_8 : ax_Ok 75 15 (ax_newa 0 9) := ok_newa0 wd_63 dX7_init_15 rfl
theorem o_75_9 : ax_Ok 75 17 (ax_put 7 3 3 10) := ok_putF (C := RX7) (T := TX7) (N := 19) rfl in_X7 tyX7 tyX7_ok nmX7 (by decide) wd_440 rfl rfl rfl rfl rfl dX7_init_17 rfl
theorem o_75_10 : ax_Ok 75 20 (ax_aload 0 11) := ok_aload_n rfl dX7_init_20 rfl
theorem o_75_11 : ax_Ok 75 21 (ax_const 60 12) := ok_bipush (by decide) dX7_init_21 rfl
theorem o_75_12 : ax_Ok 75 23 (ax_newa 0 13) := ok_newa0 wd_63 dX7_init_23 rfl
theorem o_75_13 : ax_Ok 75 25 (ax_put 7 4 3 14) := ok_putF (C := RX7) (T := TX7) (N := 19) rfl in_X7 tyX7 tyX7_ok nmX7 (by decide) wd_441 rfl rfl rfl rfl rfl dX7_init_25 rfl
theorem o_75_14 : ax_Ok 75 28 (ax_aload 0 15) := ok_aload_n rfl dX7_init_28 rfl
theorem o_75_15 : ax_Ok 75 29 (ax_const 60 16) := ok_bipush (by decide) dX7_init_29 rfl
theorem o_75_16 : ax_Ok 75 31 (ax_newa 0 17) := ok_newa0 wd_63 dX7_init_31 rfl
theorem o_75_17 : ax_Ok 75 33 (ax_put 7 5 3 18) := ok_putF (C := RX7) (T := TX7) (N := 19) rfl in_X7 tyX7 tyX7_ok nmX7 (by decide) wd_442 rfl rfl rfl rfl rfl dX7_init_33 rfl
theorem o_75_18 : ax_Ok 75 36 (ax_aload 0 19) := ok_aload_n rfl dX7_init_36 rfl
theorem o_75_19 : ax_Ok 75 37 (ax_const 60 20) := ok_bipush (by decide) dX7_init_37 rfl
theorem o_75_20 : ax_Ok 75 39 (ax_newa 0 21) := ok_newa0 wd_63 dX7_init_39 rfl
theorem o_75_21 : ax_Ok 75 41 (ax_put 7 6 3 22) := ok_putF (C := RX7) (T := TX7) (N := 19) rfl in_X7 tyX7 tyX7_ok nmX7 (by decide) wd_443 rfl rfl rfl rfl rfl dX7_init_41 rfl
theorem o_75_22 : ax_Ok 75 44 (ax_aload 0 23) := ok_aload_n rfl dX7_init_44 rfl
theorem o_75_23 : ax_Ok 75 45 (ax_const 60 24) := ok_bipush (by decide) dX7_init_45 rfl
theorem o_75_24 : ax_Ok 75 47 (ax_newa 0 25) := ok_newa0 wd_63 dX7_init_47 rfl
theorem o_75_25 : ax_Ok 75 49 (ax_put 7 7 3 26) := ok_putF (C := RX7) (T := TX7) (N := 19) rfl in_X7 tyX7 tyX7_ok nmX7 (by decide) wd_444 rfl rfl rfl rfl rfl dX7_init_49 rfl
theorem o_75_26 : ax_Ok 75 52 (ax_aload 0 27) := ok_aload_n rfl dX7_init_52 rfl
theorem o_75_27 : ax_Ok 75 53 (ax_const 14400 28) := ok_sipush (by decide) dX7_init_53 rfl
theorem o_75_28 : ax_Ok 75 56 (ax_newa 1 29) := ok_newa1 wd_30 dX7_init_56 rfl
theorem o_75_29 : ax_Ok 75 58 (ax_put 7 8 3 30) := ok_putF (C := RX7) (T := TX7) (N := 19) rfl in_X7 tyX7 tyX7_ok nmX7 (by decide) wd_445 rfl rfl rfl rfl rfl dX7_init_58 rfl
theorem o_75_30 : ax_Ok 75 61 (ax_aload 0 31) := ok_aload_n rfl dX7_init_61 rfl
theorem o_75_31 : ax_Ok 75 62 (ax_const 240 32) := ok_sipush (by decide) dX7_init_62 rfl
theorem o_75_32 : ax_Ok 75 65 (ax_newa 0 33) := ok_newa0 wd_63 dX7_init_65 rfl
theorem o_75_33 : ax_Ok 75 67 (ax_put 7 9 3 34) := ok_putF (C := RX7) (T := TX7) (N := 19) rfl in_X7 tyX7 tyX7_ok nmX7 (by decide) wd_446 rfl rfl rfl rfl rfl dX7_init_67 rfl
theorem o_75_34 : ax_Ok 75 70 (ax_aload 0 35) := ok_aload_n rfl dX7_init_70 rfl
theorem o_75_35 : ax_Ok 75 71 (ax_const 240 36) := ok_sipush (by decide) dX7_init_71 rfl
theorem o_75_36 : ax_Ok 75 74 (ax_newa 1 37) := ok_newa1 wd_30 dX7_init_74 rfl
theorem o_75_37 : ax_Ok 75 76 (ax_put 7 12 3 38) := ok_putF (C := RX7) (T := TX7) (N := 19) rfl in_X7 tyX7 tyX7_ok nmX7 (by decide) wd_449 rfl rfl rfl rfl rfl dX7_init_76 rfl
theorem o_75_38 : ax_Ok 75 79 (ax_aload 0 39) := ok_aload_n rfl dX7_init_79 rfl
theorem o_75_39 : ax_Ok 75 80 (ax_const 4 40) := ok_iconst (by decide) dX7_init_80 rfl
theorem o_75_40 : ax_Ok 75 81 (ax_newa 0 41) := ok_newa0 wd_63 dX7_init_81 rfl
theorem o_75_41 : ax_Ok 75 83 (ax_put 7 13 3 42) := ok_putF (C := RX7) (T := TX7) (N := 19) rfl in_X7 tyX7 tyX7_ok nmX7 (by decide) wd_450 rfl rfl rfl rfl rfl dX7_init_83 rfl
theorem o_75_42 : ax_Ok 75 86 (ax_aload 0 43) := ok_aload_n rfl dX7_init_86 rfl
theorem o_75_43 : ax_Ok 75 87 (ax_const 4 44) := ok_iconst (by decide) dX7_init_87 rfl
theorem o_75_44 : ax_Ok 75 88 (ax_newa 0 45) := ok_newa0 wd_63 dX7_init_88 rfl
theorem o_75_45 : ax_Ok 75 90 (ax_put 7 15 3 46) := ok_putF (C := RX7) (T := TX7) (N := 19) rfl in_X7 tyX7 tyX7_ok nmX7 (by decide) wd_452 rfl rfl rfl rfl rfl dX7_init_90 rfl
theorem o_75_46 : ax_Ok 75 93 (ax_aload 0 47) := ok_aload_n rfl dX7_init_93 rfl
theorem o_75_47 : ax_Ok 75 94 (ax_const 48 48) := ok_bipush (by decide) dX7_init_94 rfl
theorem o_75_48 : ax_Ok 75 96 (ax_newa 0 49) := ok_newa0 wd_63 dX7_init_96 rfl
theorem o_75_49 : ax_Ok 75 98 (ax_put 7 16 3 50) := ok_putF (C := RX7) (T := TX7) (N := 19) rfl in_X7 tyX7 tyX7_ok nmX7 (by decide) wd_453 rfl rfl rfl rfl rfl dX7_init_98 rfl
theorem o_75_50 : ax_Ok 75 101 (ax_aload 0 51) := ok_aload_n rfl dX7_init_101 rfl
theorem o_75_51 : ax_Ok 75 102 (ax_const 16 52) := ok_bipush (by decide) dX7_init_102 rfl
theorem o_75_52 : ax_Ok 75 104 (ax_newa 0 53) := ok_newa0 wd_63 dX7_init_104 rfl
theorem o_75_53 : ax_Ok 75 106 (ax_put 7 17 3 54) := ok_putF (C := RX7) (T := TX7) (N := 19) rfl in_X7 tyX7 tyX7_ok nmX7 (by decide) wd_454 rfl rfl rfl rfl rfl dX7_init_106 rfl
theorem o_75_54 : ax_Ok 75 109 (ax_retv) := ok_retv rfl dX7_init_109
theorem o_76_0 : ax_Ok 76 0 (ax_iload 1 1) := ok_iload_n rfl dX7_type_0 rfl
theorem o_76_1 : ax_Ok 76 1 (ax_const 32 2) := ok_bipush (by decide) dX7_type_1 rfl
theorem o_76_2 : ax_Ok 76 3 (ax_icmp (fun x y => decide (x < y)) 10 3) := ok_icmp_lt dX7_type_3 (by decide) rfl
theorem o_76_3 : ax_Ok 76 6 (ax_iload 1 4) := ok_iload_n rfl dX7_type_6 rfl
theorem o_76_4 : ax_Ok 76 7 (ax_const 126 5) := ok_bipush (by decide) dX7_type_7 rfl
theorem o_76_5 : ax_Ok 76 9 (ax_icmp (fun x y => decide (y < x)) 10 6) := ok_icmp_gt dX7_type_9 (by decide) rfl
theorem o_76_6 : ax_Ok 76 12 (ax_aload 0 7) := ok_aload_n rfl dX7_type_12 rfl
theorem o_76_7 : ax_Ok 76 13 (ax_get 7 0 8) := ok_get (C := RX7) (T := TX7) (N := 19) rfl in_X7 (by decide) wd_437 rfl dX7_type_13 rfl
theorem o_76_8 : ax_Ok 76 16 (ax_const 60 9) := ok_bipush (by decide) dX7_type_16 rfl
theorem o_76_9 : ax_Ok 76 18 (ax_icmp (fun x y => decide (¬ x = y)) 12 10) := ok_icmp_ne dX7_type_18 (by decide) rfl
theorem o_76_10 : ax_Ok 76 21 (ax_const 0 11) := ok_iconst (by decide) dX7_type_21 rfl
theorem o_76_11 : ax_Ok 76 22 (ax_ret 1) := ok_ret1 rfl dX7_type_22
theorem o_76_12 : ax_Ok 76 23 (ax_aload 0 13) := ok_aload_n rfl dX7_type_23 rfl
theorem o_76_13 : ax_Ok 76 24 (ax_get 7 1 14) := ok_get (C := RX7) (T := TX7) (N := 19) rfl in_X7 (by decide) wd_438 rfl dX7_type_24 rfl
theorem o_76_14 : ax_Ok 76 27 (ax_aload 0 15) := ok_aload_n rfl dX7_type_27 rfl
theorem o_76_15 : ax_Ok 76 28 (ax_get 7 0 16) := ok_get (C := RX7) (T := TX7) (N := 19) rfl in_X7 (by decide) wd_437 rfl dX7_type_28 rfl
theorem o_76_16 : ax_Ok 76 31 (ax_iload 1 17) := ok_iload_n rfl dX7_type_31 rfl
theorem o_76_17 : ax_Ok 76 32 (ax_ast 1 18) := ok_cast dX7_type_32 rfl
theorem o_76_18 : ax_Ok 76 33 (ax_aload 0 19) := ok_aload_n rfl dX7_type_33 rfl
theorem o_76_19 : ax_Ok 76 34 (ax_dup 20) := ok_dup dX7_type_34 rfl
theorem o_76_20 : ax_Ok 76 35 (ax_get 7 0 21) := ok_get (C := RX7) (T := TX7) (N := 19) rfl in_X7 (by decide) wd_437 rfl dX7_type_35 rfl
theorem o_76_21 : ax_Ok 76 38 (ax_const 1 22) := ok_iconst (by decide) dX7_type_38 rfl
theorem o_76_22 : ax_Ok 76 39 (ax_bin (fun x y => x + y) 23) := ok_iadd dX7_type_39 rfl
theorem o_76_23 : ax_Ok 76 40 (ax_put 7 0 0 24) := ok_put (C := RX7) (T := TX7) (N := 19) rfl in_X7 tyX7 tyX7_ok nmX7 (by decide) wd_437 rfl rfl rfl dX7_type_40 rfl
theorem o_76_24 : ax_Ok 76 43 (ax_const 1 25) := ok_iconst (by decide) dX7_type_43 rfl
theorem o_76_25 : ax_Ok 76 44 (ax_ret 1) := ok_ret1 rfl dX7_type_44
theorem o_77_0 : ax_Ok 77 0 (ax_iload 0 1) := ok_iload_n rfl dX7_isVariable_0 rfl
theorem o_77_1 : ax_Ok 77 1 (ax_const 88 2) := ok_bipush (by decide) dX7_isVariable_1 rfl
theorem o_77_2 : ax_Ok 77 3 (ax_icmp (fun x y => decide (x < y)) 8 3) := ok_icmp_lt dX7_isVariable_3 (by decide) rfl
theorem o_77_3 : ax_Ok 77 6 (ax_iload 0 4) := ok_iload_n rfl dX7_isVariable_6 rfl
theorem o_77_4 : ax_Ok 77 7 (ax_const 90 5) := ok_bipush (by decide) dX7_isVariable_7 rfl
theorem o_77_5 : ax_Ok 77 9 (ax_icmp (fun x y => decide (y < x)) 8 6) := ok_icmp_gt dX7_isVariable_9 (by decide) rfl
theorem o_77_6 : ax_Ok 77 12 (ax_const 1 7) := ok_iconst (by decide) dX7_isVariable_12 rfl
theorem o_77_7 : ax_Ok 77 13 (ax_goto 9) := ok_goto dX7_isVariable_13 (by decide)
theorem o_77_8 : ax_Ok 77 16 (ax_const 0 9) := ok_iconst (by decide) dX7_isVariable_16 rfl
theorem o_77_9 : ax_Ok 77 17 (ax_ret 1) := ok_ret1 rfl dX7_isVariable_17
theorem o_78_0 : ax_Ok 78 0 (ax_iload 0 1) := ok_iload_n rfl dX7_isRole_0 rfl
theorem o_78_1 : ax_Ok 78 1 (ax_const 65 2) := ok_bipush (by decide) dX7_isRole_1 rfl
theorem o_78_2 : ax_Ok 78 3 (ax_icmp (fun x y => decide (x < y)) 8 3) := ok_icmp_lt dX7_isRole_3 (by decide) rfl
theorem o_78_3 : ax_Ok 78 6 (ax_iload 0 4) := ok_iload_n rfl dX7_isRole_6 rfl
theorem o_78_4 : ax_Ok 78 7 (ax_const 68 5) := ok_bipush (by decide) dX7_isRole_7 rfl
theorem o_78_5 : ax_Ok 78 9 (ax_icmp (fun x y => decide (y < x)) 8 6) := ok_icmp_gt dX7_isRole_9 (by decide) rfl
theorem o_78_6 : ax_Ok 78 12 (ax_const 1 7) := ok_iconst (by decide) dX7_isRole_12 rfl
theorem o_78_7 : ax_Ok 78 13 (ax_goto 9) := ok_goto dX7_isRole_13 (by decide)
theorem o_78_8 : ax_Ok 78 16 (ax_const 0 9) := ok_iconst (by decide) dX7_isRole_16 rfl
theorem o_78_9 : ax_Ok 78 17 (ax_ret 1) := ok_ret1 rfl dX7_isRole_17
theorem o_79_0 : ax_Ok 79 0 (ax_iload 0 1) := ok_iload_n rfl dX7_isLabel_0 rfl
theorem o_79_1 : ax_Ok 79 1 (ax_const 112 2) := ok_bipush (by decide) dX7_isLabel_1 rfl
theorem o_79_2 : ax_Ok 79 3 (ax_icmp (fun x y => decide (x < y)) 8 3) := ok_icmp_lt dX7_isLabel_3 (by decide) rfl
theorem o_79_3 : ax_Ok 79 6 (ax_iload 0 4) := ok_iload_n rfl dX7_isLabel_6 rfl
theorem o_79_4 : ax_Ok 79 7 (ax_const 117 5) := ok_bipush (by decide) dX7_isLabel_7 rfl
theorem o_79_5 : ax_Ok 79 9 (ax_icmp (fun x y => decide (y < x)) 8 6) := ok_icmp_gt dX7_isLabel_9 (by decide) rfl
theorem o_79_6 : ax_Ok 79 12 (ax_const 1 7) := ok_iconst (by decide) dX7_isLabel_12 rfl
theorem o_79_7 : ax_Ok 79 13 (ax_goto 9) := ok_goto dX7_isLabel_13 (by decide)
theorem o_79_8 : ax_Ok 79 16 (ax_const 0 9) := ok_iconst (by decide) dX7_isLabel_16 rfl
theorem o_79_9 : ax_Ok 79 17 (ax_ret 1) := ok_ret1 rfl dX7_isLabel_17
theorem o_80_0 : ax_Ok 80 0 (ax_aload 0 1) := ok_aload_n rfl dX7_piece_0 rfl
theorem o_80_1 : ax_Ok 80 1 (ax_get 7 3 2) := ok_get (C := RX7) (T := TX7) (N := 19) rfl in_X7 (by decide) wd_440 rfl dX7_piece_1 rfl
theorem o_80_2 : ax_Ok 80 4 (ax_aload 0 3) := ok_aload_n rfl dX7_piece_4 rfl
theorem o_80_3 : ax_Ok 80 5 (ax_get 7 2 4) := ok_get (C := RX7) (T := TX7) (N := 19) rfl in_X7 (by decide) wd_439 rfl dX7_piece_5 rfl
theorem o_80_4 : ax_Ok 80 8 (ax_iload 1 5) := ok_iload_n rfl dX7_piece_8 rfl
theorem o_80_5 : ax_Ok 80 9 (ax_ast 0 6) := ok_iast dX7_piece_9 rfl
