theorem o_98_9 : ax_Ok 98 19 (ax_aload 0 10) := ok_aload_n rfl dX7_charAt_19 rfl
theorem o_98_10 : ax_Ok 98 20 (ax_get 7 13 11) := ok_get (C := RX7) (T := TX7) (N := 19) rfl in_X7 (by decide) wd_450 rfl dX7_charAt_20 rfl
theorem o_98_11 : ax_Ok 98 23 (ax_iload 1 12) := ok_iload_n rfl dX7_charAt_23 rfl
theorem o_98_12 : ax_Ok 98 24 (ax_ald 0 13) := ok_iald dX7_charAt_24 rfl
theorem o_98_13 : ax_Ok 98 25 (ax_icmp (fun x y => decide (y ≤ x)) 23 14) := ok_icmp_ge dX7_charAt_25 (by decide) rfl
theorem o_98_14 : ax_Ok 98 28 (ax_aload 0 15) := ok_aload_n rfl dX7_charAt_28 rfl
theorem o_98_15 : ax_Ok 98 29 (ax_get 7 12 16) := ok_get (C := RX7) (T := TX7) (N := 19) rfl in_X7 (by decide) wd_449 rfl dX7_charAt_29 rfl
theorem o_98_16 : ax_Ok 98 32 (ax_const 60 17) := ok_bipush (by decide) dX7_charAt_32 rfl
theorem o_98_17 : ax_Ok 98 34 (ax_iload 1 18) := ok_iload_n rfl dX7_charAt_34 rfl
theorem o_98_18 : ax_Ok 98 35 (ax_bin (fun x y => x * y) 19) := ok_imul dX7_charAt_35 rfl
theorem o_98_19 : ax_Ok 98 36 (ax_iload 2 20) := ok_iload_n rfl dX7_charAt_36 rfl
theorem o_98_20 : ax_Ok 98 37 (ax_bin (fun x y => x + y) 21) := ok_iadd dX7_charAt_37 rfl
theorem o_98_21 : ax_Ok 98 38 (ax_ald 1 22) := ok_cald dX7_charAt_38 rfl
theorem o_98_22 : ax_Ok 98 39 (ax_goto 24) := ok_goto dX7_charAt_39 (by decide)
theorem o_98_23 : ax_Ok 98 42 (ax_const (-1) 24) := ok_iconst (by decide) dX7_charAt_42 rfl
theorem o_98_24 : ax_Ok 98 43 (ax_ret 0) := ok_ret0 rfl dX7_charAt_43
theorem o_99_0 : ax_Ok 99 0 (ax_iload 2 1) := ok_iload_n rfl dX7_sign_0 rfl
theorem o_99_1 : ax_Ok 99 1 (ax_aload 0 2) := ok_aload_n rfl dX7_sign_1 rfl
theorem o_99_2 : ax_Ok 99 2 (ax_get 7 13 3) := ok_get (C := RX7) (T := TX7) (N := 19) rfl in_X7 (by decide) wd_450 rfl dX7_sign_2 rfl
theorem o_99_3 : ax_Ok 99 5 (ax_iload 1 4) := ok_iload_n rfl dX7_sign_5 rfl
theorem o_99_4 : ax_Ok 99 6 (ax_ald 0 5) := ok_iald dX7_sign_6 rfl
theorem o_99_5 : ax_Ok 99 7 (ax_icmp (fun x y => decide (y ≤ x)) 15 6) := ok_icmp_ge dX7_sign_7 (by decide) rfl
theorem o_99_6 : ax_Ok 99 10 (ax_aload 0 7) := ok_aload_n rfl dX7_sign_10 rfl
theorem o_99_7 : ax_Ok 99 11 (ax_get 7 12 8) := ok_get (C := RX7) (T := TX7) (N := 19) rfl in_X7 (by decide) wd_449 rfl dX7_sign_11 rfl
theorem o_99_8 : ax_Ok 99 14 (ax_const 60 9) := ok_bipush (by decide) dX7_sign_14 rfl
theorem o_99_9 : ax_Ok 99 16 (ax_iload 1 10) := ok_iload_n rfl dX7_sign_16 rfl
theorem o_99_10 : ax_Ok 99 17 (ax_bin (fun x y => x * y) 11) := ok_imul dX7_sign_17 rfl
theorem o_99_11 : ax_Ok 99 18 (ax_iload 2 12) := ok_iload_n rfl dX7_sign_18 rfl
theorem o_99_12 : ax_Ok 99 19 (ax_bin (fun x y => x + y) 13) := ok_iadd dX7_sign_19 rfl
theorem o_99_13 : ax_Ok 99 20 (ax_ald 1 14) := ok_cald dX7_sign_20 rfl
theorem o_99_14 : ax_Ok 99 21 (ax_goto 16) := ok_goto dX7_sign_21 (by decide)
theorem o_99_15 : ax_Ok 99 24 (ax_const 0 16) := ok_iconst (by decide) dX7_sign_24 rfl
theorem o_99_16 : ax_Ok 99 25 (ax_ret 0) := ok_ret0 rfl dX7_sign_25
theorem o_100_0 : ax_Ok 100 0 (ax_const 0 1) := ok_iconst (by decide) dX7_loopOf_0 rfl
theorem o_100_1 : ax_Ok 100 1 (ax_istore 4 2) := ok_istore (by decide) dX7_loopOf_1 rfl
theorem o_100_2 : ax_Ok 100 3 (ax_const 0 3) := ok_iconst (by decide) dX7_loopOf_3 rfl
theorem o_100_3 : ax_Ok 100 4 (ax_istore 5 4) := ok_istore (by decide) dX7_loopOf_4 rfl
theorem o_100_4 : ax_Ok 100 6 (ax_iload 2 5) := ok_iload_n rfl dX7_loopOf_6 rfl
theorem o_100_5 : ax_Ok 100 7 (ax_const 1 6) := ok_iconst (by decide) dX7_loopOf_7 rfl
theorem o_100_6 : ax_Ok 100 8 (ax_bin (fun x y => x - y) 7) := ok_isub dX7_loopOf_8 rfl
theorem o_100_7 : ax_Ok 100 9 (ax_istore 6 8) := ok_istore (by decide) dX7_loopOf_9 rfl
theorem o_100_8 : ax_Ok 100 11 (ax_iload 6 9) := ok_iload dX7_loopOf_11 rfl
theorem o_100_9 : ax_Ok 100 13 (ax_if (fun x => decide (x < 0)) 60 10) := ok_if_lt dX7_loopOf_13 (by decide) rfl
theorem o_100_10 : ax_Ok 100 16 (ax_aload 0 11) := ok_aload_n rfl dX7_loopOf_16 rfl
theorem o_100_11 : ax_Ok 100 17 (ax_iload 1 12) := ok_iload_n rfl dX7_loopOf_17 rfl
theorem o_100_12 : ax_Ok 100 18 (ax_iload 6 13) := ok_iload dX7_loopOf_18 rfl
theorem o_100_13 : ax_Ok 100 20 (ax_callV 7 99 2 14) := ok_callV (C := RX7) rfl rfl wd_590 wd_592 wp_40 wd_8 mo_99 (by decide) dX7_loopOf_20 rfl
theorem o_100_14 : ax_Ok 100 23 (ax_istore 7 15) := ok_istore (by decide) dX7_loopOf_23 rfl
theorem o_100_15 : ax_Ok 100 25 (ax_iload 7 16) := ok_iload dX7_loopOf_25 rfl
theorem o_100_16 : ax_Ok 100 27 (ax_const 125 17) := ok_bipush (by decide) dX7_loopOf_27 rfl
theorem o_100_17 : ax_Ok 100 29 (ax_icmp (fun x y => decide (¬ x = y)) 20 18) := ok_icmp_ne dX7_loopOf_29 (by decide) rfl
theorem o_100_18 : ax_Ok 100 32 (ax_iinc 4 1 19) := ok_iinc (by decide) (by decide) dX7_loopOf_32 rfl
theorem o_100_19 : ax_Ok 100 35 (ax_goto 58) := ok_goto dX7_loopOf_35 (by decide)
theorem o_100_20 : ax_Ok 100 38 (ax_iload 7 21) := ok_iload dX7_loopOf_38 rfl
theorem o_100_21 : ax_Ok 100 40 (ax_const 123 22) := ok_bipush (by decide) dX7_loopOf_40 rfl
theorem o_100_22 : ax_Ok 100 42 (ax_icmp (fun x y => decide (¬ x = y)) 27 23) := ok_icmp_ne dX7_loopOf_42 (by decide) rfl
theorem o_100_23 : ax_Ok 100 45 (ax_iload 4 24) := ok_iload dX7_loopOf_45 rfl
theorem o_100_24 : ax_Ok 100 47 (ax_if (fun x => decide (x ≤ 0)) 27 25) := ok_if_le dX7_loopOf_47 (by decide) rfl
theorem o_100_25 : ax_Ok 100 50 (ax_iinc 4 (-1) 26) := ok_iinc (by decide) (by decide) dX7_loopOf_50 rfl
theorem o_100_26 : ax_Ok 100 53 (ax_goto 58) := ok_goto dX7_loopOf_53 (by decide)
theorem o_100_27 : ax_Ok 100 56 (ax_iload 7 28) := ok_iload dX7_loopOf_56 rfl
theorem o_100_28 : ax_Ok 100 58 (ax_const 123 29) := ok_bipush (by decide) dX7_loopOf_58 rfl
theorem o_100_29 : ax_Ok 100 60 (ax_icmp (fun x y => decide (¬ x = y)) 33 30) := ok_icmp_ne dX7_loopOf_60 (by decide) rfl
theorem o_100_30 : ax_Ok 100 63 (ax_const 0 31) := ok_iconst (by decide) dX7_loopOf_63 rfl
theorem o_100_31 : ax_Ok 100 64 (ax_istore 5 32) := ok_istore (by decide) dX7_loopOf_64 rfl
theorem o_100_32 : ax_Ok 100 66 (ax_goto 58) := ok_goto dX7_loopOf_66 (by decide)
theorem o_100_33 : ax_Ok 100 69 (ax_iload 7 34) := ok_iload dX7_loopOf_69 rfl
theorem o_100_34 : ax_Ok 100 71 (ax_const 44 35) := ok_bipush (by decide) dX7_loopOf_71 rfl
theorem o_100_35 : ax_Ok 100 73 (ax_icmp (fun x y => decide (¬ x = y)) 41 36) := ok_icmp_ne dX7_loopOf_73 (by decide) rfl
theorem o_100_36 : ax_Ok 100 76 (ax_iload 4 37) := ok_iload dX7_loopOf_76 rfl
theorem o_100_37 : ax_Ok 100 78 (ax_if (fun x => decide (¬ x = 0)) 41 38) := ok_if_ne dX7_loopOf_78 (by decide) rfl
theorem o_100_38 : ax_Ok 100 81 (ax_const 1 39) := ok_iconst (by decide) dX7_loopOf_81 rfl
theorem o_100_39 : ax_Ok 100 82 (ax_istore 5 40) := ok_istore (by decide) dX7_loopOf_82 rfl
theorem o_100_40 : ax_Ok 100 84 (ax_goto 58) := ok_goto dX7_loopOf_84 (by decide)
theorem o_100_41 : ax_Ok 100 87 (ax_iload 7 42) := ok_iload dX7_loopOf_87 rfl
theorem o_100_42 : ax_Ok 100 89 (ax_const 109 43) := ok_bipush (by decide) dX7_loopOf_89 rfl
theorem o_100_43 : ax_Ok 100 91 (ax_icmp (fun x y => decide (¬ x = y)) 58 44) := ok_icmp_ne dX7_loopOf_91 (by decide) rfl
theorem o_100_44 : ax_Ok 100 94 (ax_iload 4 45) := ok_iload dX7_loopOf_94 rfl
theorem o_100_45 : ax_Ok 100 96 (ax_if (fun x => decide (¬ x = 0)) 58 46) := ok_if_ne dX7_loopOf_96 (by decide) rfl
theorem o_100_46 : ax_Ok 100 99 (ax_iload 5 47) := ok_iload dX7_loopOf_99 rfl
theorem o_100_47 : ax_Ok 100 101 (ax_if (fun x => decide (¬ x = 0)) 58 48) := ok_if_ne dX7_loopOf_101 (by decide) rfl
theorem o_100_48 : ax_Ok 100 104 (ax_aload 0 49) := ok_aload_n rfl dX7_loopOf_104 rfl
theorem o_100_49 : ax_Ok 100 105 (ax_iload 1 50) := ok_iload_n rfl dX7_loopOf_105 rfl
theorem o_100_50 : ax_Ok 100 106 (ax_iload 6 51) := ok_iload dX7_loopOf_106 rfl
theorem o_100_51 : ax_Ok 100 108 (ax_const 1 52) := ok_iconst (by decide) dX7_loopOf_108 rfl
theorem o_100_52 : ax_Ok 100 109 (ax_bin (fun x y => x + y) 53) := ok_iadd dX7_loopOf_109 rfl
theorem o_100_53 : ax_Ok 100 110 (ax_callV 7 99 2 54) := ok_callV (C := RX7) rfl rfl wd_590 wd_592 wp_40 wd_8 mo_99 (by decide) dX7_loopOf_110 rfl
theorem o_100_54 : ax_Ok 100 113 (ax_iload 3 55) := ok_iload_n rfl dX7_loopOf_113 rfl
theorem o_100_55 : ax_Ok 100 114 (ax_icmp (fun x y => decide (¬ x = y)) 58 56) := ok_icmp_ne dX7_loopOf_114 (by decide) rfl
theorem o_100_56 : ax_Ok 100 117 (ax_iload 6 57) := ok_iload dX7_loopOf_117 rfl
theorem o_100_57 : ax_Ok 100 119 (ax_ret 0) := ok_ret0 rfl dX7_loopOf_119
theorem o_100_58 : ax_Ok 100 120 (ax_iinc 6 (-1) 59) := ok_iinc (by decide) (by decide) dX7_loopOf_120 rfl
theorem o_100_59 : ax_Ok 100 123 (ax_goto 8) := ok_goto dX7_loopOf_123 (by decide)
theorem o_100_60 : ax_Ok 100 126 (ax_const 0 61) := ok_iconst (by decide) dX7_loopOf_126 rfl
theorem o_100_61 : ax_Ok 100 127 (ax_ret 0) := ok_ret0 rfl dX7_loopOf_127
theorem o_101_0 : ax_Ok 101 0 (ax_iload 2 1) := ok_iload_n rfl dX7_settle_0 rfl
theorem o_101_1 : ax_Ok 101 1 (ax_istore 3 2) := ok_istore_n rfl (by decide) dX7_settle_1 rfl
theorem o_101_2 : ax_Ok 101 2 (ax_const 0 3) := ok_iconst (by decide) dX7_settle_2 rfl
theorem o_101_3 : ax_Ok 101 3 (ax_istore 4 4) := ok_istore (by decide) dX7_settle_3 rfl
theorem o_101_4 : ax_Ok 101 5 (ax_iload 4 5) := ok_iload dX7_settle_5 rfl
theorem o_101_5 : ax_Ok 101 7 (ax_const 100 6) := ok_bipush (by decide) dX7_settle_7 rfl
theorem o_101_6 : ax_Ok 101 9 (ax_icmp (fun x y => decide (y ≤ x)) 28 7) := ok_icmp_ge dX7_settle_9 (by decide) rfl
theorem o_101_7 : ax_Ok 101 12 (ax_aload 0 8) := ok_aload_n rfl dX7_settle_12 rfl
theorem o_101_8 : ax_Ok 101 13 (ax_iload 1 9) := ok_iload_n rfl dX7_settle_13 rfl
theorem o_101_9 : ax_Ok 101 14 (ax_iload 3 10) := ok_iload_n rfl dX7_settle_14 rfl
theorem o_101_10 : ax_Ok 101 15 (ax_callV 7 99 2 11) := ok_callV (C := RX7) rfl rfl wd_590 wd_592 wp_40 wd_8 mo_99 (by decide) dX7_settle_15 rfl
theorem o_101_11 : ax_Ok 101 18 (ax_istore 5 12) := ok_istore (by decide) dX7_settle_18 rfl
theorem o_101_12 : ax_Ok 101 20 (ax_iload 5 13) := ok_iload dX7_settle_20 rfl
theorem o_101_13 : ax_Ok 101 22 (ax_const 109 14) := ok_bipush (by decide) dX7_settle_22 rfl
theorem o_101_14 : ax_Ok 101 24 (ax_icmp (fun x y => decide (¬ x = y)) 17 15) := ok_icmp_ne dX7_settle_24 (by decide) rfl
theorem o_101_15 : ax_Ok 101 27 (ax_iinc 3 3 16) := ok_iinc (by decide) (by decide) dX7_settle_27 rfl
theorem o_101_16 : ax_Ok 101 30 (ax_goto 26) := ok_goto dX7_settle_30 (by decide)
theorem o_101_17 : ax_Ok 101 33 (ax_iload 5 18) := ok_iload dX7_settle_33 rfl
theorem o_101_18 : ax_Ok 101 35 (ax_callS 77 1 19) := ok_callS wd_510 wd_511 wd_8 mo_77 dX7_settle_35 rfl
theorem o_101_19 : ax_Ok 101 38 (ax_if (fun x => decide (x = 0)) 26 20) := ok_if_eq dX7_settle_38 (by decide) rfl
theorem o_101_20 : ax_Ok 101 41 (ax_aload 0 21) := ok_aload_n rfl dX7_settle_41 rfl
theorem o_101_21 : ax_Ok 101 42 (ax_iload 1 22) := ok_iload_n rfl dX7_settle_42 rfl
theorem o_101_22 : ax_Ok 101 43 (ax_iload 3 23) := ok_iload_n rfl dX7_settle_43 rfl
theorem o_101_23 : ax_Ok 101 44 (ax_iload 5 24) := ok_iload dX7_settle_44 rfl
theorem o_101_24 : ax_Ok 101 46 (ax_callV 7 100 3 25) := ok_callV (C := RX7) rfl rfl wd_594 wd_596 wp_41 wd_8 mo_100 (by decide) dX7_settle_46 rfl
theorem o_101_25 : ax_Ok 101 49 (ax_istore 3 26) := ok_istore_n rfl (by decide) dX7_settle_49 rfl
theorem o_101_26 : ax_Ok 101 50 (ax_iinc 4 1 27) := ok_iinc (by decide) (by decide) dX7_settle_50 rfl
theorem o_101_27 : ax_Ok 101 53 (ax_goto 4) := ok_goto dX7_settle_53 (by decide)
theorem o_101_28 : ax_Ok 101 56 (ax_aload 0 29) := ok_aload_n rfl dX7_settle_56 rfl
theorem o_101_29 : ax_Ok 101 57 (ax_get 7 15 30) := ok_get (C := RX7) (T := TX7) (N := 19) rfl in_X7 (by decide) wd_452 rfl dX7_settle_57 rfl
theorem o_101_30 : ax_Ok 101 60 (ax_iload 1 31) := ok_iload_n rfl dX7_settle_60 rfl
theorem o_101_31 : ax_Ok 101 61 (ax_iload 3 32) := ok_iload_n rfl dX7_settle_61 rfl
theorem o_101_32 : ax_Ok 101 62 (ax_ast 0 33) := ok_iast dX7_settle_62 rfl
theorem o_101_33 : ax_Ok 101 63 (ax_retv) := ok_retv rfl dX7_settle_63
theorem o_102_0 : ax_Ok 102 0 (ax_aload 0 1) := ok_aload_n rfl dX7_begin_0 rfl
theorem o_102_1 : ax_Ok 102 1 (ax_get 7 10 2) := ok_get (C := RX7) (T := TX7) (N := 19) rfl in_X7 (by decide) wd_447 rfl dX7_begin_1 rfl
theorem o_102_2 : ax_Ok 102 4 (ax_istore 1 3) := ok_istore_n rfl (by decide) dX7_begin_4 rfl
theorem o_102_3 : ax_Ok 102 5 (ax_const 0 4) := ok_iconst (by decide) dX7_begin_5 rfl
theorem o_102_4 : ax_Ok 102 6 (ax_istore 2 5) := ok_istore_n rfl (by decide) dX7_begin_6 rfl
theorem o_102_5 : ax_Ok 102 7 (ax_iload 2 6) := ok_iload_n rfl dX7_begin_7 rfl
theorem o_102_6 : ax_Ok 102 8 (ax_const 4 7) := ok_iconst (by decide) dX7_begin_8 rfl
theorem o_102_7 : ax_Ok 102 9 (ax_icmp (fun x y => decide (y ≤ x)) 21 8) := ok_icmp_ge dX7_begin_9 (by decide) rfl
theorem o_102_8 : ax_Ok 102 12 (ax_iload 1 9) := ok_iload_n rfl dX7_begin_12 rfl
theorem o_102_9 : ax_Ok 102 13 (ax_if (fun x => decide (x = 0)) 17 10) := ok_if_eq dX7_begin_13 (by decide) rfl
theorem o_102_10 : ax_Ok 102 16 (ax_aload 0 11) := ok_aload_n rfl dX7_begin_16 rfl
theorem o_102_11 : ax_Ok 102 17 (ax_get 7 13 12) := ok_get (C := RX7) (T := TX7) (N := 19) rfl in_X7 (by decide) wd_450 rfl dX7_begin_17 rfl
theorem o_102_12 : ax_Ok 102 20 (ax_iload 2 13) := ok_iload_n rfl dX7_begin_20 rfl
theorem o_102_13 : ax_Ok 102 21 (ax_ald 0 14) := ok_iald dX7_begin_21 rfl
theorem o_102_14 : ax_Ok 102 22 (ax_if (fun x => decide (x < 0)) 17 15) := ok_if_lt dX7_begin_22 (by decide) rfl
theorem o_102_15 : ax_Ok 102 25 (ax_const 1 16) := ok_iconst (by decide) dX7_begin_25 rfl
theorem o_102_16 : ax_Ok 102 26 (ax_goto 18) := ok_goto dX7_begin_26 (by decide)
theorem o_102_17 : ax_Ok 102 29 (ax_const 0 18) := ok_iconst (by decide) dX7_begin_29 rfl
theorem o_102_18 : ax_Ok 102 30 (ax_istore 1 19) := ok_istore_n rfl (by decide) dX7_begin_30 rfl
theorem o_102_19 : ax_Ok 102 31 (ax_iinc 2 1 20) := ok_iinc (by decide) (by decide) dX7_begin_31 rfl
theorem o_102_20 : ax_Ok 102 34 (ax_goto 5) := ok_goto dX7_begin_34 (by decide)
theorem o_102_21 : ax_Ok 102 37 (ax_iload 1 22) := ok_iload_n rfl dX7_begin_37 rfl
theorem o_102_22 : ax_Ok 102 38 (ax_if (fun x => decide (¬ x = 0)) 25 23) := ok_if_ne dX7_begin_38 (by decide) rfl
theorem o_102_23 : ax_Ok 102 41 (ax_const 0 24) := ok_iconst (by decide) dX7_begin_41 rfl
theorem o_102_24 : ax_Ok 102 42 (ax_ret 1) := ok_ret1 rfl dX7_begin_42
theorem o_102_25 : ax_Ok 102 43 (ax_aload 0 26) := ok_aload_n rfl dX7_begin_43 rfl
theorem o_102_26 : ax_Ok 102 44 (ax_const 1 27) := ok_iconst (by decide) dX7_begin_44 rfl
theorem o_102_27 : ax_Ok 102 45 (ax_put 7 14 1 28) := ok_put (C := RX7) (T := TX7) (N := 19) rfl in_X7 tyX7 tyX7_ok nmX7 (by decide) wd_451 rfl rfl rfl dX7_begin_45 rfl
theorem o_102_28 : ax_Ok 102 48 (ax_aload 0 29) := ok_aload_n rfl dX7_begin_48 rfl
theorem o_102_29 : ax_Ok 102 49 (ax_const 0 30) := ok_iconst (by decide) dX7_begin_49 rfl
theorem o_102_30 : ax_Ok 102 50 (ax_put 7 18 0 31) := ok_put (C := RX7) (T := TX7) (N := 19) rfl in_X7 tyX7 tyX7_ok nmX7 (by decide) wd_455 rfl rfl rfl dX7_begin_50 rfl
theorem o_102_31 : ax_Ok 102 53 (ax_const 0 32) := ok_iconst (by decide) dX7_begin_53 rfl
theorem o_102_32 : ax_Ok 102 54 (ax_istore 2 33) := ok_istore_n rfl (by decide) dX7_begin_54 rfl
theorem o_102_33 : ax_Ok 102 55 (ax_iload 2 34) := ok_iload_n rfl dX7_begin_55 rfl
theorem o_102_34 : ax_Ok 102 56 (ax_const 4 35) := ok_iconst (by decide) dX7_begin_56 rfl
theorem o_102_35 : ax_Ok 102 57 (ax_icmp (fun x y => decide (y ≤ x)) 42 36) := ok_icmp_ge dX7_begin_57 (by decide) rfl
theorem o_102_36 : ax_Ok 102 60 (ax_aload 0 37) := ok_aload_n rfl dX7_begin_60 rfl
theorem o_102_37 : ax_Ok 102 61 (ax_iload 2 38) := ok_iload_n rfl dX7_begin_61 rfl
theorem o_102_38 : ax_Ok 102 62 (ax_const 0 39) := ok_iconst (by decide) dX7_begin_62 rfl
theorem o_102_39 : ax_Ok 102 63 (ax_callV 7 101 2 40) := ok_callV (C := RX7) rfl rfl wd_586 wd_588 wp_39 wd_8 mo_101 (by decide) dX7_begin_63 rfl
theorem o_102_40 : ax_Ok 102 66 (ax_iinc 2 1 41) := ok_iinc (by decide) (by decide) dX7_begin_66 rfl
theorem o_102_41 : ax_Ok 102 69 (ax_goto 33) := ok_goto dX7_begin_69 (by decide)
theorem o_102_42 : ax_Ok 102 72 (ax_const 0 43) := ok_iconst (by decide) dX7_begin_72 rfl
theorem o_102_43 : ax_Ok 102 73 (ax_istore 2 44) := ok_istore_n rfl (by decide) dX7_begin_73 rfl
theorem o_102_44 : ax_Ok 102 74 (ax_iload 2 45) := ok_iload_n rfl dX7_begin_74 rfl
theorem o_102_45 : ax_Ok 102 75 (ax_const 16 46) := ok_bipush (by decide) dX7_begin_75 rfl
theorem o_102_46 : ax_Ok 102 77 (ax_icmp (fun x y => decide (y ≤ x)) 54 47) := ok_icmp_ge dX7_begin_77 (by decide) rfl
theorem o_102_47 : ax_Ok 102 80 (ax_aload 0 48) := ok_aload_n rfl dX7_begin_80 rfl
theorem o_102_48 : ax_Ok 102 81 (ax_get 7 17 49) := ok_get (C := RX7) (T := TX7) (N := 19) rfl in_X7 (by decide) wd_454 rfl dX7_begin_81 rfl
theorem o_102_49 : ax_Ok 102 84 (ax_iload 2 50) := ok_iload_n rfl dX7_begin_84 rfl
theorem o_102_50 : ax_Ok 102 85 (ax_const 0 51) := ok_iconst (by decide) dX7_begin_85 rfl
theorem o_102_51 : ax_Ok 102 86 (ax_ast 0 52) := ok_iast dX7_begin_86 rfl
theorem o_102_52 : ax_Ok 102 87 (ax_iinc 2 1 53) := ok_iinc (by decide) (by decide) dX7_begin_87 rfl
theorem o_102_53 : ax_Ok 102 90 (ax_goto 44) := ok_goto dX7_begin_90 (by decide)
theorem o_102_54 : ax_Ok 102 93 (ax_const 1 55) := ok_iconst (by decide) dX7_begin_93 rfl
theorem o_102_55 : ax_Ok 102 94 (ax_ret 1) := ok_ret1 rfl dX7_begin_94
theorem o_103_0 : ax_Ok 103 0 (ax_aload 0 1) := ok_aload_n rfl dX7_act_0 rfl
theorem o_103_1 : ax_Ok 103 1 (ax_get 7 14 2) := ok_get (C := RX7) (T := TX7) (N := 19) rfl in_X7 (by decide) wd_451 rfl dX7_act_1 rfl
theorem o_103_2 : ax_Ok 103 4 (ax_if (fun x => decide (x = 0)) 6 3) := ok_if_eq dX7_act_4 (by decide) rfl
theorem o_103_3 : ax_Ok 103 7 (ax_iload 1 4) := ok_iload_n rfl dX7_act_7 rfl
theorem o_103_4 : ax_Ok 103 8 (ax_callS 95 1 5) := ok_callS wd_575 wd_576 wd_8 mo_95 dX7_act_8 rfl
theorem o_103_5 : ax_Ok 103 11 (ax_if (fun x => decide (¬ x = 0)) 8 6) := ok_if_ne dX7_act_11 (by decide) rfl
theorem o_103_6 : ax_Ok 103 14 (ax_const (-1) 7) := ok_iconst (by decide) dX7_act_14 rfl
theorem o_103_7 : ax_Ok 103 15 (ax_ret 0) := ok_ret0 rfl dX7_act_15
theorem o_103_8 : ax_Ok 103 16 (ax_aload 0 9) := ok_aload_n rfl dX7_act_16 rfl
theorem o_103_9 : ax_Ok 103 17 (ax_iload 1 10) := ok_iload_n rfl dX7_act_17 rfl
theorem o_103_10 : ax_Ok 103 18 (ax_aload 0 11) := ok_aload_n rfl dX7_act_18 rfl
theorem o_103_11 : ax_Ok 103 19 (ax_get 7 15 12) := ok_get (C := RX7) (T := TX7) (N := 19) rfl in_X7 (by decide) wd_452 rfl dX7_act_19 rfl
theorem o_103_12 : ax_Ok 103 22 (ax_iload 1 13) := ok_iload_n rfl dX7_act_22 rfl
theorem o_103_13 : ax_Ok 103 23 (ax_ald 0 14) := ok_iald dX7_act_23 rfl
theorem o_103_14 : ax_Ok 103 24 (ax_const 1 15) := ok_iconst (by decide) dX7_act_24 rfl
theorem o_103_15 : ax_Ok 103 25 (ax_bin (fun x y => x + y) 16) := ok_iadd dX7_act_25 rfl
theorem o_103_16 : ax_Ok 103 26 (ax_callV 7 99 2 17) := ok_callV (C := RX7) rfl rfl wd_590 wd_592 wp_40 wd_8 mo_99 (by decide) dX7_act_26 rfl
theorem o_103_17 : ax_Ok 103 29 (ax_istore 2 18) := ok_istore_n rfl (by decide) dX7_act_29 rfl
theorem o_103_18 : ax_Ok 103 30 (ax_aload 0 19) := ok_aload_n rfl dX7_act_30 rfl
theorem o_103_19 : ax_Ok 103 31 (ax_iload 1 20) := ok_iload_n rfl dX7_act_31 rfl
theorem o_103_20 : ax_Ok 103 32 (ax_aload 0 21) := ok_aload_n rfl dX7_act_32 rfl
theorem o_103_21 : ax_Ok 103 33 (ax_get 7 15 22) := ok_get (C := RX7) (T := TX7) (N := 19) rfl in_X7 (by decide) wd_452 rfl dX7_act_33 rfl
theorem o_103_22 : ax_Ok 103 36 (ax_iload 1 23) := ok_iload_n rfl dX7_act_36 rfl
theorem o_103_23 : ax_Ok 103 37 (ax_ald 0 24) := ok_iald dX7_act_37 rfl
theorem o_103_24 : ax_Ok 103 38 (ax_callV 7 99 2 25) := ok_callV (C := RX7) rfl rfl wd_590 wd_592 wp_40 wd_8 mo_99 (by decide) dX7_act_38 rfl
theorem o_103_25 : ax_Ok 103 41 (ax_const 101 26) := ok_bipush (by decide) dX7_act_41 rfl
theorem o_103_26 : ax_Ok 103 43 (ax_icmp (fun x y => decide (¬ x = y)) 29 27) := ok_icmp_ne dX7_act_43 (by decide) rfl
theorem o_103_27 : ax_Ok 103 46 (ax_const 0 28) := ok_iconst (by decide) dX7_act_46 rfl
theorem o_103_28 : ax_Ok 103 47 (ax_goto 35) := ok_goto dX7_act_47 (by decide)
theorem o_103_29 : ax_Ok 103 50 (ax_iload 2 30) := ok_iload_n rfl dX7_act_50 rfl
theorem o_103_30 : ax_Ok 103 51 (ax_const 33 31) := ok_bipush (by decide) dX7_act_51 rfl
theorem o_103_31 : ax_Ok 103 53 (ax_icmp (fun x y => decide (¬ x = y)) 34 32) := ok_icmp_ne dX7_act_53 (by decide) rfl
theorem o_103_32 : ax_Ok 103 56 (ax_const 1 33) := ok_iconst (by decide) dX7_act_56 rfl
theorem o_103_33 : ax_Ok 103 57 (ax_goto 35) := ok_goto dX7_act_57 (by decide)
theorem o_103_34 : ax_Ok 103 60 (ax_const 2 35) := ok_iconst (by decide) dX7_act_60 rfl
theorem o_103_35 : ax_Ok 103 61 (ax_ret 0) := ok_ret0 rfl dX7_act_61
theorem o_104_0 : ax_Ok 104 0 (ax_aload 0 1) := ok_aload_n rfl dX7_partner_0 rfl
theorem o_104_1 : ax_Ok 104 1 (ax_iload 1 2) := ok_iload_n rfl dX7_partner_1 rfl
theorem o_104_2 : ax_Ok 104 2 (ax_callV 7 103 1 3) := ok_callV (C := RX7) rfl rfl wd_606 wd_599 wd_600 wd_8 mo_103 (by decide) dX7_partner_2 rfl
theorem o_104_3 : ax_Ok 104 5 (ax_const 1 4) := ok_iconst (by decide) dX7_partner_5 rfl
theorem o_104_4 : ax_Ok 104 6 (ax_icmp (fun x y => decide (y ≤ x)) 7 5) := ok_icmp_ge dX7_partner_6 (by decide) rfl
theorem o_104_5 : ax_Ok 104 9 (ax_const (-1) 6) := ok_iconst (by decide) dX7_partner_9 rfl
theorem o_104_6 : ax_Ok 104 10 (ax_goto 16) := ok_goto dX7_partner_10 (by decide)
theorem o_104_7 : ax_Ok 104 13 (ax_aload 0 8) := ok_aload_n rfl dX7_partner_13 rfl
theorem o_104_8 : ax_Ok 104 14 (ax_iload 1 9) := ok_iload_n rfl dX7_partner_14 rfl
theorem o_104_9 : ax_Ok 104 15 (ax_aload 0 10) := ok_aload_n rfl dX7_partner_15 rfl
theorem o_104_10 : ax_Ok 104 16 (ax_get 7 15 11) := ok_get (C := RX7) (T := TX7) (N := 19) rfl in_X7 (by decide) wd_452 rfl dX7_partner_16 rfl
theorem o_104_11 : ax_Ok 104 19 (ax_iload 1 12) := ok_iload_n rfl dX7_partner_19 rfl
theorem o_104_12 : ax_Ok 104 20 (ax_ald 0 13) := ok_iald dX7_partner_20 rfl
theorem o_104_13 : ax_Ok 104 21 (ax_callV 7 99 2 14) := ok_callV (C := RX7) rfl rfl wd_590 wd_592 wp_40 wd_8 mo_99 (by decide) dX7_partner_21 rfl
theorem o_104_14 : ax_Ok 104 24 (ax_const 65 15) := ok_bipush (by decide) dX7_partner_24 rfl
theorem o_104_15 : ax_Ok 104 26 (ax_bin (fun x y => x - y) 16) := ok_isub dX7_partner_26 rfl
theorem o_104_16 : ax_Ok 104 27 (ax_ret 0) := ok_ret0 rfl dX7_partner_27
theorem o_105_0 : ax_Ok 105 0 (ax_aload 0 1) := ok_aload_n rfl dX7_branchOf_0 rfl
theorem o_105_1 : ax_Ok 105 1 (ax_iload 1 2) := ok_iload_n rfl dX7_branchOf_1 rfl
theorem o_105_2 : ax_Ok 105 2 (ax_callV 7 103 1 3) := ok_callV (C := RX7) rfl rfl wd_606 wd_599 wd_600 wd_8 mo_103 (by decide) dX7_branchOf_2 rfl
theorem o_105_3 : ax_Ok 105 5 (ax_const 1 4) := ok_iconst (by decide) dX7_branchOf_5 rfl
theorem o_105_4 : ax_Ok 105 6 (ax_icmp (fun x y => decide (y ≤ x)) 7 5) := ok_icmp_ge dX7_branchOf_6 (by decide) rfl
theorem o_105_5 : ax_Ok 105 9 (ax_const (-1) 6) := ok_iconst (by decide) dX7_branchOf_9 rfl
theorem o_105_6 : ax_Ok 105 10 (ax_ret 0) := ok_ret0 rfl dX7_branchOf_10
theorem o_105_7 : ax_Ok 105 11 (ax_const 0 8) := ok_iconst (by decide) dX7_branchOf_11 rfl
theorem o_105_8 : ax_Ok 105 12 (ax_istore 3 9) := ok_istore_n rfl (by decide) dX7_branchOf_12 rfl
theorem o_105_9 : ax_Ok 105 13 (ax_aload 0 10) := ok_aload_n rfl dX7_branchOf_13 rfl
theorem o_105_10 : ax_Ok 105 14 (ax_get 7 15 11) := ok_get (C := RX7) (T := TX7) (N := 19) rfl in_X7 (by decide) wd_452 rfl dX7_branchOf_14 rfl
theorem o_105_11 : ax_Ok 105 17 (ax_iload 1 12) := ok_iload_n rfl dX7_branchOf_17 rfl
theorem o_105_12 : ax_Ok 105 18 (ax_ald 0 13) := ok_iald dX7_branchOf_18 rfl
theorem o_105_13 : ax_Ok 105 19 (ax_const 2 14) := ok_iconst (by decide) dX7_branchOf_19 rfl
theorem o_105_14 : ax_Ok 105 20 (ax_bin (fun x y => x + y) 15) := ok_iadd dX7_branchOf_20 rfl
theorem o_105_15 : ax_Ok 105 21 (ax_istore 4 16) := ok_istore (by decide) dX7_branchOf_21 rfl
theorem o_105_16 : ax_Ok 105 23 (ax_iload 4 17) := ok_iload dX7_branchOf_23 rfl
theorem o_105_17 : ax_Ok 105 25 (ax_aload 0 18) := ok_aload_n rfl dX7_branchOf_25 rfl
theorem o_105_18 : ax_Ok 105 26 (ax_get 7 13 19) := ok_get (C := RX7) (T := TX7) (N := 19) rfl in_X7 (by decide) wd_450 rfl dX7_branchOf_26 rfl
theorem o_105_19 : ax_Ok 105 29 (ax_iload 1 20) := ok_iload_n rfl dX7_branchOf_29 rfl
theorem o_105_20 : ax_Ok 105 30 (ax_ald 0 21) := ok_iald dX7_branchOf_30 rfl
theorem o_105_21 : ax_Ok 105 31 (ax_icmp (fun x y => decide (y ≤ x)) 72 22) := ok_icmp_ge dX7_branchOf_31 (by decide) rfl
theorem o_105_22 : ax_Ok 105 34 (ax_aload 0 23) := ok_aload_n rfl dX7_branchOf_34 rfl
theorem o_105_23 : ax_Ok 105 35 (ax_iload 1 24) := ok_iload_n rfl dX7_branchOf_35 rfl
theorem o_105_24 : ax_Ok 105 36 (ax_iload 4 25) := ok_iload dX7_branchOf_36 rfl
theorem o_105_25 : ax_Ok 105 38 (ax_callV 7 99 2 26) := ok_callV (C := RX7) rfl rfl wd_590 wd_592 wp_40 wd_8 mo_99 (by decide) dX7_branchOf_38 rfl
theorem o_105_26 : ax_Ok 105 41 (ax_istore 5 27) := ok_istore (by decide) dX7_branchOf_41 rfl
theorem o_105_27 : ax_Ok 105 43 (ax_iload 5 28) := ok_iload dX7_branchOf_43 rfl
theorem o_105_28 : ax_Ok 105 45 (ax_const 123 29) := ok_bipush (by decide) dX7_branchOf_45 rfl
theorem o_105_29 : ax_Ok 105 47 (ax_icmp (fun x y => decide (¬ x = y)) 34 30) := ok_icmp_ne dX7_branchOf_47 (by decide) rfl
theorem o_105_30 : ax_Ok 105 50 (ax_iload 3 31) := ok_iload_n rfl dX7_branchOf_50 rfl
theorem o_105_31 : ax_Ok 105 51 (ax_const 1 32) := ok_iconst (by decide) dX7_branchOf_51 rfl
theorem o_105_32 : ax_Ok 105 52 (ax_bin (fun x y => x + y) 33) := ok_iadd dX7_branchOf_52 rfl
theorem o_105_33 : ax_Ok 105 53 (ax_goto 42) := ok_goto dX7_branchOf_53 (by decide)
theorem o_105_34 : ax_Ok 105 56 (ax_iload 5 35) := ok_iload dX7_branchOf_56 rfl
theorem o_105_35 : ax_Ok 105 58 (ax_const 125 36) := ok_bipush (by decide) dX7_branchOf_58 rfl
theorem o_105_36 : ax_Ok 105 60 (ax_icmp (fun x y => decide (¬ x = y)) 41 37) := ok_icmp_ne dX7_branchOf_60 (by decide) rfl
theorem o_105_37 : ax_Ok 105 63 (ax_iload 3 38) := ok_iload_n rfl dX7_branchOf_63 rfl
theorem o_105_38 : ax_Ok 105 64 (ax_const 1 39) := ok_iconst (by decide) dX7_branchOf_64 rfl
theorem o_105_39 : ax_Ok 105 65 (ax_bin (fun x y => x - y) 40) := ok_isub dX7_branchOf_65 rfl
theorem o_105_40 : ax_Ok 105 66 (ax_goto 42) := ok_goto dX7_branchOf_66 (by decide)
theorem o_105_41 : ax_Ok 105 69 (ax_iload 3 42) := ok_iload_n rfl dX7_branchOf_69 rfl
theorem o_105_42 : ax_Ok 105 70 (ax_istore 3 43) := ok_istore_n rfl (by decide) dX7_branchOf_70 rfl
theorem o_105_43 : ax_Ok 105 71 (ax_iload 3 44) := ok_iload_n rfl dX7_branchOf_71 rfl
theorem o_105_44 : ax_Ok 105 72 (ax_if (fun x => decide (¬ x = 0)) 47 45) := ok_if_ne dX7_branchOf_72 (by decide) rfl
theorem o_105_45 : ax_Ok 105 75 (ax_const (-1) 46) := ok_iconst (by decide) dX7_branchOf_75 rfl
theorem o_105_46 : ax_Ok 105 76 (ax_ret 0) := ok_ret0 rfl dX7_branchOf_76
theorem o_105_47 : ax_Ok 105 77 (ax_iload 3 48) := ok_iload_n rfl dX7_branchOf_77 rfl
theorem o_105_48 : ax_Ok 105 78 (ax_const 1 49) := ok_iconst (by decide) dX7_branchOf_78 rfl
theorem o_105_49 : ax_Ok 105 79 (ax_icmp (fun x y => decide (¬ x = y)) 70 50) := ok_icmp_ne dX7_branchOf_79 (by decide) rfl
theorem o_105_50 : ax_Ok 105 82 (ax_iload 5 51) := ok_iload dX7_branchOf_82 rfl
theorem o_105_51 : ax_Ok 105 84 (ax_const 123 52) := ok_bipush (by decide) dX7_branchOf_84 rfl
theorem o_105_52 : ax_Ok 105 86 (ax_icmp (fun x y => decide (x = y)) 56 53) := ok_icmp_eq dX7_branchOf_86 (by decide) rfl
theorem o_105_53 : ax_Ok 105 89 (ax_iload 5 54) := ok_iload dX7_branchOf_89 rfl
theorem o_105_54 : ax_Ok 105 91 (ax_const 44 55) := ok_bipush (by decide) dX7_branchOf_91 rfl
theorem o_105_55 : ax_Ok 105 93 (ax_icmp (fun x y => decide (¬ x = y)) 70 56) := ok_icmp_ne dX7_branchOf_93 (by decide) rfl
theorem o_105_56 : ax_Ok 105 96 (ax_aload 0 57) := ok_aload_n rfl dX7_branchOf_96 rfl
theorem o_105_57 : ax_Ok 105 97 (ax_iload 1 58) := ok_iload_n rfl dX7_branchOf_97 rfl
theorem o_105_58 : ax_Ok 105 98 (ax_iload 4 59) := ok_iload dX7_branchOf_98 rfl
theorem o_105_59 : ax_Ok 105 100 (ax_const 1 60) := ok_iconst (by decide) dX7_branchOf_100 rfl
theorem o_105_60 : ax_Ok 105 101 (ax_bin (fun x y => x + y) 61) := ok_iadd dX7_branchOf_101 rfl
theorem o_105_61 : ax_Ok 105 102 (ax_callV 7 99 2 62) := ok_callV (C := RX7) rfl rfl wd_590 wd_592 wp_40 wd_8 mo_99 (by decide) dX7_branchOf_102 rfl
theorem o_105_62 : ax_Ok 105 105 (ax_const 112 63) := ok_bipush (by decide) dX7_branchOf_105 rfl
theorem o_105_63 : ax_Ok 105 107 (ax_iload 2 64) := ok_iload_n rfl dX7_branchOf_107 rfl
theorem o_105_64 : ax_Ok 105 108 (ax_bin (fun x y => x + y) 65) := ok_iadd dX7_branchOf_108 rfl
theorem o_105_65 : ax_Ok 105 109 (ax_icmp (fun x y => decide (¬ x = y)) 70 66) := ok_icmp_ne dX7_branchOf_109 (by decide) rfl
theorem o_105_66 : ax_Ok 105 112 (ax_iload 4 67) := ok_iload dX7_branchOf_112 rfl
theorem o_105_67 : ax_Ok 105 114 (ax_const 3 68) := ok_iconst (by decide) dX7_branchOf_114 rfl
theorem o_105_68 : ax_Ok 105 115 (ax_bin (fun x y => x + y) 69) := ok_iadd dX7_branchOf_115 rfl
theorem o_105_69 : ax_Ok 105 116 (ax_ret 0) := ok_ret0 rfl dX7_branchOf_116
theorem o_105_70 : ax_Ok 105 117 (ax_iinc 4 1 71) := ok_iinc (by decide) (by decide) dX7_branchOf_117 rfl
theorem o_105_71 : ax_Ok 105 120 (ax_goto 16) := ok_goto dX7_branchOf_120 (by decide)
theorem o_105_72 : ax_Ok 105 123 (ax_const (-1) 73) := ok_iconst (by decide) dX7_branchOf_123 rfl
theorem o_105_73 : ax_Ok 105 124 (ax_ret 0) := ok_ret0 rfl dX7_branchOf_124
theorem o_106_0 : ax_Ok 106 0 (ax_iload 2 1) := ok_iload_n rfl dX7_offers_0 rfl
theorem o_106_1 : ax_Ok 106 1 (ax_if (fun x => decide (x < 0)) 12 2) := ok_if_lt dX7_offers_1 (by decide) rfl
theorem o_106_2 : ax_Ok 106 4 (ax_iload 2 3) := ok_iload_n rfl dX7_offers_4 rfl
theorem o_106_3 : ax_Ok 106 5 (ax_const 5 4) := ok_iconst (by decide) dX7_offers_5 rfl
theorem o_106_4 : ax_Ok 106 6 (ax_icmp (fun x y => decide (y < x)) 12 5) := ok_icmp_gt dX7_offers_6 (by decide) rfl
theorem o_106_5 : ax_Ok 106 9 (ax_aload 0 6) := ok_aload_n rfl dX7_offers_9 rfl
theorem o_106_6 : ax_Ok 106 10 (ax_iload 1 7) := ok_iload_n rfl dX7_offers_10 rfl
theorem o_106_7 : ax_Ok 106 11 (ax_iload 2 8) := ok_iload_n rfl dX7_offers_11 rfl
theorem o_106_8 : ax_Ok 106 12 (ax_callV 7 105 2 9) := ok_callV (C := RX7) rfl rfl wd_611 wd_613 wp_42 wd_8 mo_105 (by decide) dX7_offers_12 rfl
theorem o_106_9 : ax_Ok 106 15 (ax_if (fun x => decide (x < 0)) 12 10) := ok_if_lt dX7_offers_15 (by decide) rfl
theorem o_106_10 : ax_Ok 106 18 (ax_const 1 11) := ok_iconst (by decide) dX7_offers_18 rfl
theorem o_106_11 : ax_Ok 106 19 (ax_goto 13) := ok_goto dX7_offers_19 (by decide)
theorem o_106_12 : ax_Ok 106 22 (ax_const 0 13) := ok_iconst (by decide) dX7_offers_22 rfl
theorem o_106_13 : ax_Ok 106 23 (ax_ret 1) := ok_ret1 rfl dX7_offers_23
theorem o_107_0 : ax_Ok 107 0 (ax_aload 0 1) := ok_aload_n rfl dX7_send_0 rfl
theorem o_107_1 : ax_Ok 107 1 (ax_iload 1 2) := ok_iload_n rfl dX7_send_1 rfl
theorem o_107_2 : ax_Ok 107 2 (ax_callV 7 103 1 3) := ok_callV (C := RX7) rfl rfl wd_606 wd_599 wd_600 wd_8 mo_103 (by decide) dX7_send_2 rfl
theorem o_107_3 : ax_Ok 107 5 (ax_const 1 4) := ok_iconst (by decide) dX7_send_5 rfl
theorem o_107_4 : ax_Ok 107 6 (ax_icmp (fun x y => decide (¬ x = y)) 10 5) := ok_icmp_ne dX7_send_6 (by decide) rfl
theorem o_107_5 : ax_Ok 107 9 (ax_aload 0 6) := ok_aload_n rfl dX7_send_9 rfl
theorem o_107_6 : ax_Ok 107 10 (ax_iload 1 7) := ok_iload_n rfl dX7_send_10 rfl
theorem o_107_7 : ax_Ok 107 11 (ax_iload 2 8) := ok_iload_n rfl dX7_send_11 rfl
theorem o_107_8 : ax_Ok 107 12 (ax_callV 7 106 2 9) := ok_callV (C := RX7) rfl rfl wd_619 wd_608 wd_609 wd_8 mo_106 (by decide) dX7_send_12 rfl
theorem o_107_9 : ax_Ok 107 15 (ax_if (fun x => decide (¬ x = 0)) 12 10) := ok_if_ne dX7_send_15 (by decide) rfl
theorem o_107_10 : ax_Ok 107 18 (ax_const 0 11) := ok_iconst (by decide) dX7_send_18 rfl
theorem o_107_11 : ax_Ok 107 19 (ax_ret 1) := ok_ret1 rfl dX7_send_19
theorem o_107_12 : ax_Ok 107 20 (ax_const 4 13) := ok_iconst (by decide) dX7_send_20 rfl
theorem o_107_13 : ax_Ok 107 21 (ax_iload 1 14) := ok_iload_n rfl dX7_send_21 rfl
theorem o_107_14 : ax_Ok 107 22 (ax_bin (fun x y => x * y) 15) := ok_imul dX7_send_22 rfl
theorem o_107_15 : ax_Ok 107 23 (ax_aload 0 16) := ok_aload_n rfl dX7_send_23 rfl
theorem o_107_16 : ax_Ok 107 24 (ax_iload 1 17) := ok_iload_n rfl dX7_send_24 rfl
theorem o_107_17 : ax_Ok 107 25 (ax_callV 7 104 1 18) := ok_callV (C := RX7) rfl rfl wd_620 wd_603 wd_604 wd_8 mo_104 (by decide) dX7_send_25 rfl
theorem o_107_18 : ax_Ok 107 28 (ax_bin (fun x y => x + y) 19) := ok_iadd dX7_send_28 rfl
theorem o_107_19 : ax_Ok 107 29 (ax_istore 3 20) := ok_istore_n rfl (by decide) dX7_send_29 rfl
theorem o_107_20 : ax_Ok 107 30 (ax_aload 0 21) := ok_aload_n rfl dX7_send_30 rfl
theorem o_107_21 : ax_Ok 107 31 (ax_get 7 17 22) := ok_get (C := RX7) (T := TX7) (N := 19) rfl in_X7 (by decide) wd_454 rfl dX7_send_31 rfl
theorem o_107_22 : ax_Ok 107 34 (ax_iload 3 23) := ok_iload_n rfl dX7_send_34 rfl
theorem o_107_23 : ax_Ok 107 35 (ax_ald 0 24) := ok_iald dX7_send_35 rfl
theorem o_107_24 : ax_Ok 107 36 (ax_const 3 25) := ok_iconst (by decide) dX7_send_36 rfl
theorem o_107_25 : ax_Ok 107 37 (ax_icmp (fun x y => decide (¬ x = y)) 28 26) := ok_icmp_ne dX7_send_37 (by decide) rfl
theorem o_107_26 : ax_Ok 107 40 (ax_const 0 27) := ok_iconst (by decide) dX7_send_40 rfl
theorem o_107_27 : ax_Ok 107 41 (ax_ret 1) := ok_ret1 rfl dX7_send_41
theorem o_107_28 : ax_Ok 107 42 (ax_aload 0 29) := ok_aload_n rfl dX7_send_42 rfl
theorem o_107_29 : ax_Ok 107 43 (ax_get 7 16 30) := ok_get (C := RX7) (T := TX7) (N := 19) rfl in_X7 (by decide) wd_453 rfl dX7_send_43 rfl
theorem o_107_30 : ax_Ok 107 46 (ax_const 3 31) := ok_iconst (by decide) dX7_send_46 rfl
theorem o_107_31 : ax_Ok 107 47 (ax_iload 3 32) := ok_iload_n rfl dX7_send_47 rfl
theorem o_107_32 : ax_Ok 107 48 (ax_bin (fun x y => x * y) 33) := ok_imul dX7_send_48 rfl
theorem o_107_33 : ax_Ok 107 49 (ax_aload 0 34) := ok_aload_n rfl dX7_send_49 rfl
theorem o_107_34 : ax_Ok 107 50 (ax_get 7 17 35) := ok_get (C := RX7) (T := TX7) (N := 19) rfl in_X7 (by decide) wd_454 rfl dX7_send_50 rfl
theorem o_107_35 : ax_Ok 107 53 (ax_iload 3 36) := ok_iload_n rfl dX7_send_53 rfl
theorem o_107_36 : ax_Ok 107 54 (ax_ald 0 37) := ok_iald dX7_send_54 rfl
theorem o_107_37 : ax_Ok 107 55 (ax_bin (fun x y => x + y) 38) := ok_iadd dX7_send_55 rfl
theorem o_107_38 : ax_Ok 107 56 (ax_iload 2 39) := ok_iload_n rfl dX7_send_56 rfl
theorem o_107_39 : ax_Ok 107 57 (ax_ast 0 40) := ok_iast dX7_send_57 rfl
theorem o_107_40 : ax_Ok 107 58 (ax_aload 0 41) := ok_aload_n rfl dX7_send_58 rfl
theorem o_107_41 : ax_Ok 107 59 (ax_get 7 17 42) := ok_get (C := RX7) (T := TX7) (N := 19) rfl in_X7 (by decide) wd_454 rfl dX7_send_59 rfl
theorem o_107_42 : ax_Ok 107 62 (ax_iload 3 43) := ok_iload_n rfl dX7_send_62 rfl
theorem o_107_43 : ax_Ok 107 63 (ax_dup2 44) := ok_dup2 dX7_send_63 rfl
theorem o_107_44 : ax_Ok 107 64 (ax_ald 0 45) := ok_iald dX7_send_64 rfl
theorem o_107_45 : ax_Ok 107 65 (ax_const 1 46) := ok_iconst (by decide) dX7_send_65 rfl
theorem o_107_46 : ax_Ok 107 66 (ax_bin (fun x y => x + y) 47) := ok_iadd dX7_send_66 rfl
theorem o_107_47 : ax_Ok 107 67 (ax_ast 0 48) := ok_iast dX7_send_67 rfl
theorem o_107_48 : ax_Ok 107 68 (ax_aload 0 49) := ok_aload_n rfl dX7_send_68 rfl
theorem o_107_49 : ax_Ok 107 69 (ax_dup 50) := ok_dup dX7_send_69 rfl
theorem o_107_50 : ax_Ok 107 70 (ax_get 7 18 51) := ok_get (C := RX7) (T := TX7) (N := 19) rfl in_X7 (by decide) wd_455 rfl dX7_send_70 rfl
theorem o_107_51 : ax_Ok 107 73 (ax_const 1 52) := ok_iconst (by decide) dX7_send_73 rfl
theorem o_107_52 : ax_Ok 107 74 (ax_bin (fun x y => x + y) 53) := ok_iadd dX7_send_74 rfl
theorem o_107_53 : ax_Ok 107 75 (ax_put 7 18 0 54) := ok_put (C := RX7) (T := TX7) (N := 19) rfl in_X7 tyX7 tyX7_ok nmX7 (by decide) wd_455 rfl rfl rfl dX7_send_75 rfl
theorem o_107_54 : ax_Ok 107 78 (ax_aload 0 55) := ok_aload_n rfl dX7_send_78 rfl
theorem o_107_55 : ax_Ok 107 79 (ax_iload 1 56) := ok_iload_n rfl dX7_send_79 rfl
theorem o_107_56 : ax_Ok 107 80 (ax_aload 0 57) := ok_aload_n rfl dX7_send_80 rfl
theorem o_107_57 : ax_Ok 107 81 (ax_iload 1 58) := ok_iload_n rfl dX7_send_81 rfl
theorem o_107_58 : ax_Ok 107 82 (ax_iload 2 59) := ok_iload_n rfl dX7_send_82 rfl
theorem o_107_59 : ax_Ok 107 83 (ax_callV 7 105 2 60) := ok_callV (C := RX7) rfl rfl wd_611 wd_613 wp_42 wd_8 mo_105 (by decide) dX7_send_83 rfl
theorem o_107_60 : ax_Ok 107 86 (ax_callV 7 101 2 61) := ok_callV (C := RX7) rfl rfl wd_586 wd_588 wp_39 wd_8 mo_101 (by decide) dX7_send_86 rfl
theorem o_107_61 : ax_Ok 107 89 (ax_const 1 62) := ok_iconst (by decide) dX7_send_89 rfl
theorem o_107_62 : ax_Ok 107 90 (ax_ret 1) := ok_ret1 rfl dX7_send_90
theorem o_108_0 : ax_Ok 108 0 (ax_aload 0 1) := ok_aload_n rfl dX7_receive_0 rfl
theorem o_108_1 : ax_Ok 108 1 (ax_iload 1 2) := ok_iload_n rfl dX7_receive_1 rfl
theorem o_108_2 : ax_Ok 108 2 (ax_callV 7 103 1 3) := ok_callV (C := RX7) rfl rfl wd_606 wd_599 wd_600 wd_8 mo_103 (by decide) dX7_receive_2 rfl
theorem o_108_3 : ax_Ok 108 5 (ax_const 2 4) := ok_iconst (by decide) dX7_receive_5 rfl
theorem o_108_4 : ax_Ok 108 6 (ax_icmp (fun x y => decide (x = y)) 7 5) := ok_icmp_eq dX7_receive_6 (by decide) rfl
theorem o_108_5 : ax_Ok 108 9 (ax_const (-1) 6) := ok_iconst (by decide) dX7_receive_9 rfl
theorem o_108_6 : ax_Ok 108 10 (ax_ret 0) := ok_ret0 rfl dX7_receive_10
theorem o_108_7 : ax_Ok 108 11 (ax_const 4 8) := ok_iconst (by decide) dX7_receive_11 rfl
theorem o_108_8 : ax_Ok 108 12 (ax_aload 0 9) := ok_aload_n rfl dX7_receive_12 rfl
theorem o_108_9 : ax_Ok 108 13 (ax_iload 1 10) := ok_iload_n rfl dX7_receive_13 rfl
theorem o_108_10 : ax_Ok 108 14 (ax_callV 7 104 1 11) := ok_callV (C := RX7) rfl rfl wd_620 wd_603 wd_604 wd_8 mo_104 (by decide) dX7_receive_14 rfl
theorem o_108_11 : ax_Ok 108 17 (ax_bin (fun x y => x * y) 12) := ok_imul dX7_receive_17 rfl
theorem o_108_12 : ax_Ok 108 18 (ax_iload 1 13) := ok_iload_n rfl dX7_receive_18 rfl
theorem o_108_13 : ax_Ok 108 19 (ax_bin (fun x y => x + y) 14) := ok_iadd dX7_receive_19 rfl
theorem o_108_14 : ax_Ok 108 20 (ax_istore 2 15) := ok_istore_n rfl (by decide) dX7_receive_20 rfl
theorem o_108_15 : ax_Ok 108 21 (ax_aload 0 16) := ok_aload_n rfl dX7_receive_21 rfl
theorem o_108_16 : ax_Ok 108 22 (ax_get 7 17 17) := ok_get (C := RX7) (T := TX7) (N := 19) rfl in_X7 (by decide) wd_454 rfl dX7_receive_22 rfl
theorem o_108_17 : ax_Ok 108 25 (ax_iload 2 18) := ok_iload_n rfl dX7_receive_25 rfl
theorem o_108_18 : ax_Ok 108 26 (ax_ald 0 19) := ok_iald dX7_receive_26 rfl
theorem o_108_19 : ax_Ok 108 27 (ax_if (fun x => decide (¬ x = 0)) 22 20) := ok_if_ne dX7_receive_27 (by decide) rfl
theorem o_108_20 : ax_Ok 108 30 (ax_const (-1) 21) := ok_iconst (by decide) dX7_receive_30 rfl
theorem o_108_21 : ax_Ok 108 31 (ax_ret 0) := ok_ret0 rfl dX7_receive_31
theorem o_108_22 : ax_Ok 108 32 (ax_aload 0 23) := ok_aload_n rfl dX7_receive_32 rfl
theorem o_108_23 : ax_Ok 108 33 (ax_get 7 16 24) := ok_get (C := RX7) (T := TX7) (N := 19) rfl in_X7 (by decide) wd_453 rfl dX7_receive_33 rfl
theorem o_108_24 : ax_Ok 108 36 (ax_const 3 25) := ok_iconst (by decide) dX7_receive_36 rfl
theorem o_108_25 : ax_Ok 108 37 (ax_iload 2 26) := ok_iload_n rfl dX7_receive_37 rfl
theorem o_108_26 : ax_Ok 108 38 (ax_bin (fun x y => x * y) 27) := ok_imul dX7_receive_38 rfl
theorem o_108_27 : ax_Ok 108 39 (ax_ald 0 28) := ok_iald dX7_receive_39 rfl
theorem o_108_28 : ax_Ok 108 40 (ax_istore 3 29) := ok_istore_n rfl (by decide) dX7_receive_40 rfl
theorem o_108_29 : ax_Ok 108 41 (ax_aload 0 30) := ok_aload_n rfl dX7_receive_41 rfl
theorem o_108_30 : ax_Ok 108 42 (ax_iload 1 31) := ok_iload_n rfl dX7_receive_42 rfl
theorem o_108_31 : ax_Ok 108 43 (ax_iload 3 32) := ok_iload_n rfl dX7_receive_43 rfl
theorem o_108_32 : ax_Ok 108 44 (ax_callV 7 106 2 33) := ok_callV (C := RX7) rfl rfl wd_619 wd_608 wd_609 wd_8 mo_106 (by decide) dX7_receive_44 rfl
theorem o_108_33 : ax_Ok 108 47 (ax_if (fun x => decide (¬ x = 0)) 36 34) := ok_if_ne dX7_receive_47 (by decide) rfl
theorem o_108_34 : ax_Ok 108 50 (ax_const (-2) 35) := ok_bipush (by decide) dX7_receive_50 rfl
theorem o_108_35 : ax_Ok 108 52 (ax_ret 0) := ok_ret0 rfl dX7_receive_52
theorem o_108_36 : ax_Ok 108 53 (ax_aload 0 37) := ok_aload_n rfl dX7_receive_53 rfl
theorem o_108_37 : ax_Ok 108 54 (ax_get 7 16 38) := ok_get (C := RX7) (T := TX7) (N := 19) rfl in_X7 (by decide) wd_453 rfl dX7_receive_54 rfl
theorem o_108_38 : ax_Ok 108 57 (ax_const 3 39) := ok_iconst (by decide) dX7_receive_57 rfl
theorem o_108_39 : ax_Ok 108 58 (ax_iload 2 40) := ok_iload_n rfl dX7_receive_58 rfl
theorem o_108_40 : ax_Ok 108 59 (ax_bin (fun x y => x * y) 41) := ok_imul dX7_receive_59 rfl
theorem o_108_41 : ax_Ok 108 60 (ax_aload 0 42) := ok_aload_n rfl dX7_receive_60 rfl
theorem o_108_42 : ax_Ok 108 61 (ax_get 7 16 43) := ok_get (C := RX7) (T := TX7) (N := 19) rfl in_X7 (by decide) wd_453 rfl dX7_receive_61 rfl
theorem o_108_43 : ax_Ok 108 64 (ax_const 3 44) := ok_iconst (by decide) dX7_receive_64 rfl
theorem o_108_44 : ax_Ok 108 65 (ax_iload 2 45) := ok_iload_n rfl dX7_receive_65 rfl
theorem o_108_45 : ax_Ok 108 66 (ax_bin (fun x y => x * y) 46) := ok_imul dX7_receive_66 rfl
theorem o_108_46 : ax_Ok 108 67 (ax_const 1 47) := ok_iconst (by decide) dX7_receive_67 rfl
theorem o_108_47 : ax_Ok 108 68 (ax_bin (fun x y => x + y) 48) := ok_iadd dX7_receive_68 rfl
theorem o_108_48 : ax_Ok 108 69 (ax_ald 0 49) := ok_iald dX7_receive_69 rfl
theorem o_108_49 : ax_Ok 108 70 (ax_ast 0 50) := ok_iast dX7_receive_70 rfl
theorem o_108_50 : ax_Ok 108 71 (ax_aload 0 51) := ok_aload_n rfl dX7_receive_71 rfl
theorem o_108_51 : ax_Ok 108 72 (ax_get 7 16 52) := ok_get (C := RX7) (T := TX7) (N := 19) rfl in_X7 (by decide) wd_453 rfl dX7_receive_72 rfl
theorem o_108_52 : ax_Ok 108 75 (ax_const 3 53) := ok_iconst (by decide) dX7_receive_75 rfl
theorem o_108_53 : ax_Ok 108 76 (ax_iload 2 54) := ok_iload_n rfl dX7_receive_76 rfl
theorem o_108_54 : ax_Ok 108 77 (ax_bin (fun x y => x * y) 55) := ok_imul dX7_receive_77 rfl
theorem o_108_55 : ax_Ok 108 78 (ax_const 1 56) := ok_iconst (by decide) dX7_receive_78 rfl
theorem o_108_56 : ax_Ok 108 79 (ax_bin (fun x y => x + y) 57) := ok_iadd dX7_receive_79 rfl
theorem o_108_57 : ax_Ok 108 80 (ax_aload 0 58) := ok_aload_n rfl dX7_receive_80 rfl
theorem o_108_58 : ax_Ok 108 81 (ax_get 7 16 59) := ok_get (C := RX7) (T := TX7) (N := 19) rfl in_X7 (by decide) wd_453 rfl dX7_receive_81 rfl
theorem o_108_59 : ax_Ok 108 84 (ax_const 3 60) := ok_iconst (by decide) dX7_receive_84 rfl
theorem o_108_60 : ax_Ok 108 85 (ax_iload 2 61) := ok_iload_n rfl dX7_receive_85 rfl
theorem o_108_61 : ax_Ok 108 86 (ax_bin (fun x y => x * y) 62) := ok_imul dX7_receive_86 rfl
theorem o_108_62 : ax_Ok 108 87 (ax_const 2 63) := ok_iconst (by decide) dX7_receive_87 rfl
theorem o_108_63 : ax_Ok 108 88 (ax_bin (fun x y => x + y) 64) := ok_iadd dX7_receive_88 rfl
theorem o_108_64 : ax_Ok 108 89 (ax_ald 0 65) := ok_iald dX7_receive_89 rfl
theorem o_108_65 : ax_Ok 108 90 (ax_ast 0 66) := ok_iast dX7_receive_90 rfl
theorem o_108_66 : ax_Ok 108 91 (ax_aload 0 67) := ok_aload_n rfl dX7_receive_91 rfl
theorem o_108_67 : ax_Ok 108 92 (ax_get 7 17 68) := ok_get (C := RX7) (T := TX7) (N := 19) rfl in_X7 (by decide) wd_454 rfl dX7_receive_92 rfl
theorem o_108_68 : ax_Ok 108 95 (ax_iload 2 69) := ok_iload_n rfl dX7_receive_95 rfl
theorem o_108_69 : ax_Ok 108 96 (ax_dup2 70) := ok_dup2 dX7_receive_96 rfl
theorem o_108_70 : ax_Ok 108 97 (ax_ald 0 71) := ok_iald dX7_receive_97 rfl
theorem o_108_71 : ax_Ok 108 98 (ax_const 1 72) := ok_iconst (by decide) dX7_receive_98 rfl
theorem o_108_72 : ax_Ok 108 99 (ax_bin (fun x y => x - y) 73) := ok_isub dX7_receive_99 rfl
theorem o_108_73 : ax_Ok 108 100 (ax_ast 0 74) := ok_iast dX7_receive_100 rfl
theorem o_108_74 : ax_Ok 108 101 (ax_aload 0 75) := ok_aload_n rfl dX7_receive_101 rfl
theorem o_108_75 : ax_Ok 108 102 (ax_dup 76) := ok_dup dX7_receive_102 rfl
theorem o_108_76 : ax_Ok 108 103 (ax_get 7 18 77) := ok_get (C := RX7) (T := TX7) (N := 19) rfl in_X7 (by decide) wd_455 rfl dX7_receive_103 rfl
theorem o_108_77 : ax_Ok 108 106 (ax_const 1 78) := ok_iconst (by decide) dX7_receive_106 rfl
theorem o_108_78 : ax_Ok 108 107 (ax_bin (fun x y => x + y) 79) := ok_iadd dX7_receive_107 rfl
theorem o_108_79 : ax_Ok 108 108 (ax_put 7 18 0 80) := ok_put (C := RX7) (T := TX7) (N := 19) rfl in_X7 tyX7 tyX7_ok nmX7 (by decide) wd_455 rfl rfl rfl dX7_receive_108 rfl
theorem o_108_80 : ax_Ok 108 111 (ax_aload 0 81) := ok_aload_n rfl dX7_receive_111 rfl
theorem o_108_81 : ax_Ok 108 112 (ax_iload 1 82) := ok_iload_n rfl dX7_receive_112 rfl
theorem o_108_82 : ax_Ok 108 113 (ax_aload 0 83) := ok_aload_n rfl dX7_receive_113 rfl
theorem o_108_83 : ax_Ok 108 114 (ax_iload 1 84) := ok_iload_n rfl dX7_receive_114 rfl
theorem o_108_84 : ax_Ok 108 115 (ax_iload 3 85) := ok_iload_n rfl dX7_receive_115 rfl
theorem o_108_85 : ax_Ok 108 116 (ax_callV 7 105 2 86) := ok_callV (C := RX7) rfl rfl wd_611 wd_613 wp_42 wd_8 mo_105 (by decide) dX7_receive_116 rfl
theorem o_108_86 : ax_Ok 108 119 (ax_callV 7 101 2 87) := ok_callV (C := RX7) rfl rfl wd_586 wd_588 wp_39 wd_8 mo_101 (by decide) dX7_receive_119 rfl
theorem o_108_87 : ax_Ok 108 122 (ax_iload 3 88) := ok_iload_n rfl dX7_receive_122 rfl
theorem o_108_88 : ax_Ok 108 123 (ax_ret 0) := ok_ret0 rfl dX7_receive_123
theorem o_109_0 : ax_Ok 109 0 (ax_aload 0 1) := ok_aload_n rfl dX7_onTheWay_0 rfl
theorem o_109_1 : ax_Ok 109 1 (ax_get 7 14 2) := ok_get (C := RX7) (T := TX7) (N := 19) rfl in_X7 (by decide) wd_451 rfl dX7_onTheWay_1 rfl
theorem o_109_2 : ax_Ok 109 4 (ax_if (fun x => decide (x = 0)) 18 3) := ok_if_eq dX7_onTheWay_4 (by decide) rfl
theorem o_109_3 : ax_Ok 109 7 (ax_iload 1 4) := ok_iload_n rfl dX7_onTheWay_7 rfl
theorem o_109_4 : ax_Ok 109 8 (ax_callS 95 1 5) := ok_callS wd_575 wd_576 wd_8 mo_95 dX7_onTheWay_8 rfl
theorem o_109_5 : ax_Ok 109 11 (ax_if (fun x => decide (x = 0)) 18 6) := ok_if_eq dX7_onTheWay_11 (by decide) rfl
theorem o_109_6 : ax_Ok 109 14 (ax_iload 2 7) := ok_iload_n rfl dX7_onTheWay_14 rfl
theorem o_109_7 : ax_Ok 109 15 (ax_callS 95 1 8) := ok_callS wd_575 wd_576 wd_8 mo_95 dX7_onTheWay_15 rfl
theorem o_109_8 : ax_Ok 109 18 (ax_if (fun x => decide (x = 0)) 18 9) := ok_if_eq dX7_onTheWay_18 (by decide) rfl
theorem o_109_9 : ax_Ok 109 21 (ax_aload 0 10) := ok_aload_n rfl dX7_onTheWay_21 rfl
theorem o_109_10 : ax_Ok 109 22 (ax_get 7 17 11) := ok_get (C := RX7) (T := TX7) (N := 19) rfl in_X7 (by decide) wd_454 rfl dX7_onTheWay_22 rfl
theorem o_109_11 : ax_Ok 109 25 (ax_const 4 12) := ok_iconst (by decide) dX7_onTheWay_25 rfl
theorem o_109_12 : ax_Ok 109 26 (ax_iload 1 13) := ok_iload_n rfl dX7_onTheWay_26 rfl
theorem o_109_13 : ax_Ok 109 27 (ax_bin (fun x y => x * y) 14) := ok_imul dX7_onTheWay_27 rfl
theorem o_109_14 : ax_Ok 109 28 (ax_iload 2 15) := ok_iload_n rfl dX7_onTheWay_28 rfl
theorem o_109_15 : ax_Ok 109 29 (ax_bin (fun x y => x + y) 16) := ok_iadd dX7_onTheWay_29 rfl
theorem o_109_16 : ax_Ok 109 30 (ax_ald 0 17) := ok_iald dX7_onTheWay_30 rfl
theorem o_109_17 : ax_Ok 109 31 (ax_goto 19) := ok_goto dX7_onTheWay_31 (by decide)
theorem o_109_18 : ax_Ok 109 34 (ax_const (-1) 19) := ok_iconst (by decide) dX7_onTheWay_34 rfl
theorem o_109_19 : ax_Ok 109 35 (ax_ret 0) := ok_ret0 rfl dX7_onTheWay_35
theorem o_110_0 : ax_Ok 110 0 (ax_iload 3 1) := ok_iload_n rfl dX7_labelAt_0 rfl
theorem o_110_1 : ax_Ok 110 1 (ax_if (fun x => decide (x < 0)) 21 2) := ok_if_lt dX7_labelAt_1 (by decide) rfl
theorem o_110_2 : ax_Ok 110 4 (ax_iload 3 3) := ok_iload_n rfl dX7_labelAt_4 rfl
theorem o_110_3 : ax_Ok 110 5 (ax_aload 0 4) := ok_aload_n rfl dX7_labelAt_5 rfl
theorem o_110_4 : ax_Ok 110 6 (ax_iload 1 5) := ok_iload_n rfl dX7_labelAt_6 rfl
theorem o_110_5 : ax_Ok 110 7 (ax_iload 2 6) := ok_iload_n rfl dX7_labelAt_7 rfl
theorem o_110_6 : ax_Ok 110 8 (ax_callV 7 109 2 7) := ok_callV (C := RX7) rfl rfl wd_633 wd_626 wd_627 wd_8 mo_109 (by decide) dX7_labelAt_8 rfl
theorem o_110_7 : ax_Ok 110 11 (ax_icmp (fun x y => decide (y ≤ x)) 21 8) := ok_icmp_ge dX7_labelAt_11 (by decide) rfl
theorem o_110_8 : ax_Ok 110 14 (ax_aload 0 9) := ok_aload_n rfl dX7_labelAt_14 rfl
theorem o_110_9 : ax_Ok 110 15 (ax_get 7 16 10) := ok_get (C := RX7) (T := TX7) (N := 19) rfl in_X7 (by decide) wd_453 rfl dX7_labelAt_15 rfl
theorem o_110_10 : ax_Ok 110 18 (ax_const 3 11) := ok_iconst (by decide) dX7_labelAt_18 rfl
theorem o_110_11 : ax_Ok 110 19 (ax_const 4 12) := ok_iconst (by decide) dX7_labelAt_19 rfl
theorem o_110_12 : ax_Ok 110 20 (ax_iload 1 13) := ok_iload_n rfl dX7_labelAt_20 rfl
theorem o_110_13 : ax_Ok 110 21 (ax_bin (fun x y => x * y) 14) := ok_imul dX7_labelAt_21 rfl
theorem o_110_14 : ax_Ok 110 22 (ax_iload 2 15) := ok_iload_n rfl dX7_labelAt_22 rfl
theorem o_110_15 : ax_Ok 110 23 (ax_bin (fun x y => x + y) 16) := ok_iadd dX7_labelAt_23 rfl
theorem o_110_16 : ax_Ok 110 24 (ax_bin (fun x y => x * y) 17) := ok_imul dX7_labelAt_24 rfl
theorem o_110_17 : ax_Ok 110 25 (ax_iload 3 18) := ok_iload_n rfl dX7_labelAt_25 rfl
theorem o_110_18 : ax_Ok 110 26 (ax_bin (fun x y => x + y) 19) := ok_iadd dX7_labelAt_26 rfl
theorem o_110_19 : ax_Ok 110 27 (ax_ald 0 20) := ok_iald dX7_labelAt_27 rfl
theorem o_110_20 : ax_Ok 110 28 (ax_goto 22) := ok_goto dX7_labelAt_28 (by decide)
theorem o_110_21 : ax_Ok 110 31 (ax_const (-1) 22) := ok_iconst (by decide) dX7_labelAt_31 rfl
theorem o_110_22 : ax_Ok 110 32 (ax_ret 0) := ok_ret0 rfl dX7_labelAt_32
theorem o_111_0 : ax_Ok 111 0 (ax_aload 0 1) := ok_aload_n rfl dX7_moves_0 rfl
theorem o_111_1 : ax_Ok 111 1 (ax_get 7 14 2) := ok_get (C := RX7) (T := TX7) (N := 19) rfl in_X7 (by decide) wd_451 rfl dX7_moves_1 rfl
theorem o_111_2 : ax_Ok 111 4 (ax_if (fun x => decide (x = 0)) 6 3) := ok_if_eq dX7_moves_4 (by decide) rfl
theorem o_111_3 : ax_Ok 111 7 (ax_aload 0 4) := ok_aload_n rfl dX7_moves_7 rfl
theorem o_111_4 : ax_Ok 111 8 (ax_get 7 18 5) := ok_get (C := RX7) (T := TX7) (N := 19) rfl in_X7 (by decide) wd_455 rfl dX7_moves_8 rfl
theorem o_111_5 : ax_Ok 111 11 (ax_goto 7) := ok_goto dX7_moves_11 (by decide)
theorem o_111_6 : ax_Ok 111 14 (ax_const (-1) 7) := ok_iconst (by decide) dX7_moves_14 rfl
theorem o_111_7 : ax_Ok 111 15 (ax_ret 0) := ok_ret0 rfl dX7_moves_15
theorem o_112_0 : ax_Ok 112 0 (ax_aload 0 1) := ok_aload_n rfl dX7_canGo_0 rfl
theorem o_112_1 : ax_Ok 112 1 (ax_iload 1 2) := ok_iload_n rfl dX7_canGo_1 rfl
theorem o_112_2 : ax_Ok 112 2 (ax_callV 7 103 1 3) := ok_callV (C := RX7) rfl rfl wd_606 wd_599 wd_600 wd_8 mo_103 (by decide) dX7_canGo_2 rfl
theorem o_112_3 : ax_Ok 112 5 (ax_const 1 4) := ok_iconst (by decide) dX7_canGo_5 rfl
theorem o_112_4 : ax_Ok 112 6 (ax_icmp (fun x y => decide (¬ x = y)) 21 5) := ok_icmp_ne dX7_canGo_6 (by decide) rfl
theorem o_112_5 : ax_Ok 112 9 (ax_aload 0 6) := ok_aload_n rfl dX7_canGo_9 rfl
theorem o_112_6 : ax_Ok 112 10 (ax_get 7 17 7) := ok_get (C := RX7) (T := TX7) (N := 19) rfl in_X7 (by decide) wd_454 rfl dX7_canGo_10 rfl
theorem o_112_7 : ax_Ok 112 13 (ax_const 4 8) := ok_iconst (by decide) dX7_canGo_13 rfl
theorem o_112_8 : ax_Ok 112 14 (ax_iload 1 9) := ok_iload_n rfl dX7_canGo_14 rfl
theorem o_112_9 : ax_Ok 112 15 (ax_bin (fun x y => x * y) 10) := ok_imul dX7_canGo_15 rfl
theorem o_112_10 : ax_Ok 112 16 (ax_aload 0 11) := ok_aload_n rfl dX7_canGo_16 rfl
theorem o_112_11 : ax_Ok 112 17 (ax_iload 1 12) := ok_iload_n rfl dX7_canGo_17 rfl
theorem o_112_12 : ax_Ok 112 18 (ax_callV 7 104 1 13) := ok_callV (C := RX7) rfl rfl wd_620 wd_603 wd_604 wd_8 mo_104 (by decide) dX7_canGo_18 rfl
theorem o_112_13 : ax_Ok 112 21 (ax_bin (fun x y => x + y) 14) := ok_iadd dX7_canGo_21 rfl
theorem o_112_14 : ax_Ok 112 22 (ax_ald 0 15) := ok_iald dX7_canGo_22 rfl
theorem o_112_15 : ax_Ok 112 23 (ax_const 3 16) := ok_iconst (by decide) dX7_canGo_23 rfl
theorem o_112_16 : ax_Ok 112 24 (ax_icmp (fun x y => decide (y ≤ x)) 19 17) := ok_icmp_ge dX7_canGo_24 (by decide) rfl
theorem o_112_17 : ax_Ok 112 27 (ax_const 1 18) := ok_iconst (by decide) dX7_canGo_27 rfl
theorem o_112_18 : ax_Ok 112 28 (ax_goto 20) := ok_goto dX7_canGo_28 (by decide)
theorem o_112_19 : ax_Ok 112 31 (ax_const 0 20) := ok_iconst (by decide) dX7_canGo_31 rfl
theorem o_112_20 : ax_Ok 112 32 (ax_ret 1) := ok_ret1 rfl dX7_canGo_32
theorem o_112_21 : ax_Ok 112 33 (ax_aload 0 22) := ok_aload_n rfl dX7_canGo_33 rfl
theorem o_112_22 : ax_Ok 112 34 (ax_iload 1 23) := ok_iload_n rfl dX7_canGo_34 rfl
theorem o_112_23 : ax_Ok 112 35 (ax_callV 7 103 1 24) := ok_callV (C := RX7) rfl rfl wd_606 wd_599 wd_600 wd_8 mo_103 (by decide) dX7_canGo_35 rfl
theorem o_112_24 : ax_Ok 112 38 (ax_const 2 25) := ok_iconst (by decide) dX7_canGo_38 rfl
theorem o_112_25 : ax_Ok 112 39 (ax_icmp (fun x y => decide (¬ x = y)) 46 26) := ok_icmp_ne dX7_canGo_39 (by decide) rfl
theorem o_112_26 : ax_Ok 112 42 (ax_aload 0 27) := ok_aload_n rfl dX7_canGo_42 rfl
theorem o_112_27 : ax_Ok 112 43 (ax_aload 0 28) := ok_aload_n rfl dX7_canGo_43 rfl
theorem o_112_28 : ax_Ok 112 44 (ax_iload 1 29) := ok_iload_n rfl dX7_canGo_44 rfl
theorem o_112_29 : ax_Ok 112 45 (ax_callV 7 104 1 30) := ok_callV (C := RX7) rfl rfl wd_620 wd_603 wd_604 wd_8 mo_104 (by decide) dX7_canGo_45 rfl
theorem o_112_30 : ax_Ok 112 48 (ax_iload 1 31) := ok_iload_n rfl dX7_canGo_48 rfl
theorem o_112_31 : ax_Ok 112 49 (ax_callV 7 109 2 32) := ok_callV (C := RX7) rfl rfl wd_633 wd_626 wd_627 wd_8 mo_109 (by decide) dX7_canGo_49 rfl
theorem o_112_32 : ax_Ok 112 52 (ax_if (fun x => decide (x ≤ 0)) 46 33) := ok_if_le dX7_canGo_52 (by decide) rfl
theorem o_112_33 : ax_Ok 112 55 (ax_aload 0 34) := ok_aload_n rfl dX7_canGo_55 rfl
theorem o_112_34 : ax_Ok 112 56 (ax_iload 1 35) := ok_iload_n rfl dX7_canGo_56 rfl
theorem o_112_35 : ax_Ok 112 57 (ax_aload 0 36) := ok_aload_n rfl dX7_canGo_57 rfl
theorem o_112_36 : ax_Ok 112 58 (ax_aload 0 37) := ok_aload_n rfl dX7_canGo_58 rfl
theorem o_112_37 : ax_Ok 112 59 (ax_iload 1 38) := ok_iload_n rfl dX7_canGo_59 rfl
theorem o_112_38 : ax_Ok 112 60 (ax_callV 7 104 1 39) := ok_callV (C := RX7) rfl rfl wd_620 wd_603 wd_604 wd_8 mo_104 (by decide) dX7_canGo_60 rfl
theorem o_112_39 : ax_Ok 112 63 (ax_iload 1 40) := ok_iload_n rfl dX7_canGo_63 rfl
theorem o_112_40 : ax_Ok 112 64 (ax_const 0 41) := ok_iconst (by decide) dX7_canGo_64 rfl
theorem o_112_41 : ax_Ok 112 65 (ax_callV 7 110 3 42) := ok_callV (C := RX7) rfl rfl wd_646 wd_630 wd_631 wd_8 mo_110 (by decide) dX7_canGo_65 rfl
theorem o_112_42 : ax_Ok 112 68 (ax_callV 7 106 2 43) := ok_callV (C := RX7) rfl rfl wd_619 wd_608 wd_609 wd_8 mo_106 (by decide) dX7_canGo_68 rfl
theorem o_112_43 : ax_Ok 112 71 (ax_if (fun x => decide (x = 0)) 46 44) := ok_if_eq dX7_canGo_71 (by decide) rfl
theorem o_112_44 : ax_Ok 112 74 (ax_const 1 45) := ok_iconst (by decide) dX7_canGo_74 rfl
theorem o_112_45 : ax_Ok 112 75 (ax_goto 47) := ok_goto dX7_canGo_75 (by decide)
theorem o_112_46 : ax_Ok 112 78 (ax_const 0 47) := ok_iconst (by decide) dX7_canGo_78 rfl
theorem o_112_47 : ax_Ok 112 79 (ax_ret 1) := ok_ret1 rfl dX7_canGo_79
theorem o_113_0 : ax_Ok 113 0 (ax_const 0 1) := ok_iconst (by decide) dX7_ready_0 rfl
theorem o_113_1 : ax_Ok 113 1 (ax_istore 1 2) := ok_istore_n rfl (by decide) dX7_ready_1 rfl
theorem o_113_2 : ax_Ok 113 2 (ax_const 0 3) := ok_iconst (by decide) dX7_ready_2 rfl
theorem o_113_3 : ax_Ok 113 3 (ax_istore 2 4) := ok_istore_n rfl (by decide) dX7_ready_3 rfl
theorem o_113_4 : ax_Ok 113 4 (ax_iload 2 5) := ok_iload_n rfl dX7_ready_4 rfl
theorem o_113_5 : ax_Ok 113 5 (ax_const 4 6) := ok_iconst (by decide) dX7_ready_5 rfl
theorem o_113_6 : ax_Ok 113 6 (ax_icmp (fun x y => decide (y ≤ x)) 19 7) := ok_icmp_ge dX7_ready_6 (by decide) rfl
theorem o_113_7 : ax_Ok 113 9 (ax_iload 1 8) := ok_iload_n rfl dX7_ready_9 rfl
theorem o_113_8 : ax_Ok 113 10 (ax_aload 0 9) := ok_aload_n rfl dX7_ready_10 rfl
theorem o_113_9 : ax_Ok 113 11 (ax_iload 2 10) := ok_iload_n rfl dX7_ready_11 rfl
theorem o_113_10 : ax_Ok 113 12 (ax_callV 7 112 1 11) := ok_callV (C := RX7) rfl rfl wd_642 wd_644 wp_43 wd_8 mo_112 (by decide) dX7_ready_12 rfl
theorem o_113_11 : ax_Ok 113 15 (ax_if (fun x => decide (x = 0)) 14 12) := ok_if_eq dX7_ready_15 (by decide) rfl
theorem o_113_12 : ax_Ok 113 18 (ax_const 1 13) := ok_iconst (by decide) dX7_ready_18 rfl
theorem o_113_13 : ax_Ok 113 19 (ax_goto 15) := ok_goto dX7_ready_19 (by decide)
theorem o_113_14 : ax_Ok 113 22 (ax_const 0 15) := ok_iconst (by decide) dX7_ready_22 rfl
theorem o_113_15 : ax_Ok 113 23 (ax_bin (fun x y => x + y) 16) := ok_iadd dX7_ready_23 rfl
theorem o_113_16 : ax_Ok 113 24 (ax_istore 1 17) := ok_istore_n rfl (by decide) dX7_ready_24 rfl
theorem o_113_17 : ax_Ok 113 25 (ax_iinc 2 1 18) := ok_iinc (by decide) (by decide) dX7_ready_25 rfl
theorem o_113_18 : ax_Ok 113 28 (ax_goto 4) := ok_goto dX7_ready_28 (by decide)
theorem o_113_19 : ax_Ok 113 31 (ax_aload 0 20) := ok_aload_n rfl dX7_ready_31 rfl
theorem o_113_20 : ax_Ok 113 32 (ax_get 7 14 21) := ok_get (C := RX7) (T := TX7) (N := 19) rfl in_X7 (by decide) wd_451 rfl dX7_ready_32 rfl
theorem o_113_21 : ax_Ok 113 35 (ax_if (fun x => decide (x = 0)) 24 22) := ok_if_eq dX7_ready_35 (by decide) rfl
theorem o_113_22 : ax_Ok 113 38 (ax_iload 1 23) := ok_iload_n rfl dX7_ready_38 rfl
theorem o_113_23 : ax_Ok 113 39 (ax_goto 25) := ok_goto dX7_ready_39 (by decide)
theorem o_113_24 : ax_Ok 113 42 (ax_const (-1) 25) := ok_iconst (by decide) dX7_ready_42 rfl
theorem o_113_25 : ax_Ok 113 43 (ax_ret 0) := ok_ret0 rfl dX7_ready_43
theorem o_114_0 : ax_Ok 114 0 (ax_aload 0 1) := ok_aload_n rfl dX7_over_0 rfl
theorem o_114_1 : ax_Ok 114 1 (ax_get 7 14 2) := ok_get (C := RX7) (T := TX7) (N := 19) rfl in_X7 (by decide) wd_451 rfl dX7_over_1 rfl
theorem o_114_2 : ax_Ok 114 4 (ax_istore 1 3) := ok_istore_n rfl (by decide) dX7_over_4 rfl
theorem o_114_3 : ax_Ok 114 5 (ax_const 0 4) := ok_iconst (by decide) dX7_over_5 rfl
theorem o_114_4 : ax_Ok 114 6 (ax_istore 2 5) := ok_istore_n rfl (by decide) dX7_over_6 rfl
theorem o_114_5 : ax_Ok 114 7 (ax_iload 2 6) := ok_iload_n rfl dX7_over_7 rfl
theorem o_114_6 : ax_Ok 114 8 (ax_const 4 7) := ok_iconst (by decide) dX7_over_8 rfl
theorem o_114_7 : ax_Ok 114 9 (ax_icmp (fun x y => decide (y ≤ x)) 20 8) := ok_icmp_ge dX7_over_9 (by decide) rfl
theorem o_114_8 : ax_Ok 114 12 (ax_iload 1 9) := ok_iload_n rfl dX7_over_12 rfl
theorem o_114_9 : ax_Ok 114 13 (ax_if (fun x => decide (x = 0)) 16 10) := ok_if_eq dX7_over_13 (by decide) rfl
theorem o_114_10 : ax_Ok 114 16 (ax_aload 0 11) := ok_aload_n rfl dX7_over_16 rfl
theorem o_114_11 : ax_Ok 114 17 (ax_iload 2 12) := ok_iload_n rfl dX7_over_17 rfl
theorem o_114_12 : ax_Ok 114 18 (ax_callV 7 103 1 13) := ok_callV (C := RX7) rfl rfl wd_606 wd_599 wd_600 wd_8 mo_103 (by decide) dX7_over_18 rfl
theorem o_114_13 : ax_Ok 114 21 (ax_if (fun x => decide (¬ x = 0)) 16 14) := ok_if_ne dX7_over_21 (by decide) rfl
theorem o_114_14 : ax_Ok 114 24 (ax_const 1 15) := ok_iconst (by decide) dX7_over_24 rfl
theorem o_114_15 : ax_Ok 114 25 (ax_goto 17) := ok_goto dX7_over_25 (by decide)
theorem o_114_16 : ax_Ok 114 28 (ax_const 0 17) := ok_iconst (by decide) dX7_over_28 rfl
theorem o_114_17 : ax_Ok 114 29 (ax_istore 1 18) := ok_istore_n rfl (by decide) dX7_over_29 rfl
theorem o_114_18 : ax_Ok 114 30 (ax_iinc 2 1 19) := ok_iinc (by decide) (by decide) dX7_over_30 rfl
theorem o_114_19 : ax_Ok 114 33 (ax_goto 5) := ok_goto dX7_over_33 (by decide)
theorem o_114_20 : ax_Ok 114 36 (ax_const 0 21) := ok_iconst (by decide) dX7_over_36 rfl
theorem o_114_21 : ax_Ok 114 37 (ax_istore 2 22) := ok_istore_n rfl (by decide) dX7_over_37 rfl
theorem o_114_22 : ax_Ok 114 38 (ax_iload 2 23) := ok_iload_n rfl dX7_over_38 rfl
theorem o_114_23 : ax_Ok 114 39 (ax_const 16 24) := ok_bipush (by decide) dX7_over_39 rfl
theorem o_114_24 : ax_Ok 114 41 (ax_icmp (fun x y => decide (y ≤ x)) 38 25) := ok_icmp_ge dX7_over_41 (by decide) rfl
theorem o_114_25 : ax_Ok 114 44 (ax_iload 1 26) := ok_iload_n rfl dX7_over_44 rfl
theorem o_114_26 : ax_Ok 114 45 (ax_if (fun x => decide (x = 0)) 34 27) := ok_if_eq dX7_over_45 (by decide) rfl
theorem o_114_27 : ax_Ok 114 48 (ax_aload 0 28) := ok_aload_n rfl dX7_over_48 rfl
theorem o_114_28 : ax_Ok 114 49 (ax_get 7 17 29) := ok_get (C := RX7) (T := TX7) (N := 19) rfl in_X7 (by decide) wd_454 rfl dX7_over_49 rfl
theorem o_114_29 : ax_Ok 114 52 (ax_iload 2 30) := ok_iload_n rfl dX7_over_52 rfl
theorem o_114_30 : ax_Ok 114 53 (ax_ald 0 31) := ok_iald dX7_over_53 rfl
theorem o_114_31 : ax_Ok 114 54 (ax_if (fun x => decide (¬ x = 0)) 34 32) := ok_if_ne dX7_over_54 (by decide) rfl
theorem o_114_32 : ax_Ok 114 57 (ax_const 1 33) := ok_iconst (by decide) dX7_over_57 rfl
theorem o_114_33 : ax_Ok 114 58 (ax_goto 35) := ok_goto dX7_over_58 (by decide)
theorem o_114_34 : ax_Ok 114 61 (ax_const 0 35) := ok_iconst (by decide) dX7_over_61 rfl
theorem o_114_35 : ax_Ok 114 62 (ax_istore 1 36) := ok_istore_n rfl (by decide) dX7_over_62 rfl
theorem o_114_36 : ax_Ok 114 63 (ax_iinc 2 1 37) := ok_iinc (by decide) (by decide) dX7_over_63 rfl
theorem o_114_37 : ax_Ok 114 66 (ax_goto 22) := ok_goto dX7_over_66 (by decide)
theorem o_114_38 : ax_Ok 114 69 (ax_iload 1 39) := ok_iload_n rfl dX7_over_69 rfl
theorem o_114_39 : ax_Ok 114 70 (ax_ret 1) := ok_ret1 rfl dX7_over_70
theorem o_115_0 : ax_Ok 115 0 (ax_new 6 [.inr none, .inr none, .inr none, .inr none, .inr none, .inr none, .inl 0, .inl 0, .inl 0] 1) := ok_new (C := RX6) (T := TX6) (N := 9) rfl in_X6 tyX6 tyX6_ok (by decide +kernel) rfl rfl wd_9 wd_10 wd_1 dL_law_0 rfl
theorem o_115_1 : ax_Ok 115 3 (ax_dup 2) := ok_dup dL_law_3 rfl
theorem o_115_2 : ax_Ok 115 4 (ax_callI 46 0 3) := ok_callI wd_11 wd_12 wd_1 rfl rfl mo_46 (by decide) dL_law_4 rfl
theorem o_115_3 : ax_Ok 115 7 (ax_astore 1 4) := ok_astore_n rfl (by decide) dL_law_7 rfl
theorem o_115_4 : ax_Ok 115 8 (ax_new 7 [.inl 0, .inr none, .inl 0, .inr none, .inr none, .inr none, .inr none, .inr none, .inr none, .inr none, .inl 0, .inl 0, .inr none, .inr none, .inl 0, .inr none, .inr none, .inr none, .inl 0] 5) := ok_new (C := RX7) (T := TX7) (N := 19) rfl in_X7 tyX7 tyX7_ok (by decide +kernel) rfl rfl wd_431 wd_432 wd_8 dL_law_8 rfl
theorem o_115_5 : ax_Ok 115 11 (ax_dup 6) := ok_dup dL_law_11 rfl
theorem o_115_6 : ax_Ok 115 12 (ax_callI 75 0 7) := ok_callI wd_433 wd_434 wd_8 rfl rfl mo_75 (by decide) dL_law_12 rfl
theorem o_115_7 : ax_Ok 115 15 (ax_astore 2 8) := ok_astore_n rfl (by decide) dL_law_15 rfl
theorem o_115_8 : ax_Ok 115 16 (ax_const 0 9) := ok_iconst (by decide) dL_law_16 rfl
theorem o_115_9 : ax_Ok 115 17 (ax_istore 3 10) := ok_istore_n rfl (by decide) dL_law_17 rfl
theorem o_115_10 : ax_Ok 115 18 (ax_iload 3 11) := ok_iload_n rfl dL_law_18 rfl
theorem o_115_11 : ax_Ok 115 19 (ax_aload 0 12) := ok_aload_n rfl dL_law_19 rfl
theorem o_115_12 : ax_Ok 115 20 (ax_slen 13) := ok_slen dL_law_20 rfl
theorem o_115_13 : ax_Ok 115 21 (ax_const 4 14) := ok_iconst (by decide) dL_law_21 rfl
theorem o_115_14 : ax_Ok 115 22 (ax_bin (fun x y => x - y) 15) := ok_isub dL_law_22 rfl
theorem o_115_15 : ax_Ok 115 23 (ax_icmp (fun x y => decide (y < x)) 298 16) := ok_icmp_gt dL_law_23 (by decide) rfl
theorem o_115_16 : ax_Ok 115 26 (ax_aload 0 17) := ok_aload_n rfl dL_law_26 rfl
theorem o_115_17 : ax_Ok 115 27 (ax_iload 3 18) := ok_iload_n rfl dL_law_27 rfl
theorem o_115_18 : ax_Ok 115 28 (ax_sld 19) := ok_sld dL_law_28 rfl
theorem o_115_19 : ax_Ok 115 29 (ax_const 15 20) := ok_bipush (by decide) dL_law_29 rfl
theorem o_115_20 : ax_Ok 115 31 (ax_bin (fun x y => x &&& y) 21) := ok_iand dL_law_31 rfl
theorem o_115_21 : ax_Ok 115 32 (ax_sw [(0, 22), (1, 41), (2, 48), (3, 55), (4, 72), (5, 99), (6, 106), (7, 123), (8, 140), (9, 167), (10, 194), (11, 211), (12, 238), (13, 275), (14, 282), (15, 289)] 296) := ax_swU (ts := [22, 41, 48, 55, 72, 99, 106, 123, 140, 167, 194, 211, 238, 275, 282, 289]) dL_law_32 rfl rfl rfl (by decide) (by decide +kernel)
theorem o_115_22 : ax_Ok 115 112 (ax_aload 1 23) := ok_aload_n rfl dL_law_112 rfl
theorem o_115_23 : ax_Ok 115 113 (ax_aload 0 24) := ok_aload_n rfl dL_law_113 rfl
theorem o_115_24 : ax_Ok 115 114 (ax_iload 3 25) := ok_iload_n rfl dL_law_114 rfl
theorem o_115_25 : ax_Ok 115 115 (ax_const 1 26) := ok_iconst (by decide) dL_law_115 rfl
theorem o_115_26 : ax_Ok 115 116 (ax_bin (fun x y => x + y) 27) := ok_iadd dL_law_116 rfl
theorem o_115_27 : ax_Ok 115 117 (ax_sld 28) := ok_sld dL_law_117 rfl
theorem o_115_28 : ax_Ok 115 118 (ax_un (fun x => (x.toUInt32 % 65536).toInt32) 29) := ok_i2c dL_law_118 rfl
theorem o_115_29 : ax_Ok 115 119 (ax_callV 6 47 1 30) := ok_callV (C := RX6) rfl rfl wd_145 wd_146 wd_147 wd_1 mo_47 (by decide) dL_law_119 rfl
theorem o_115_30 : ax_Ok 115 122 (ax_aload 2 31) := ok_aload_n rfl dL_law_122 rfl
theorem o_115_31 : ax_Ok 115 123 (ax_aload 0 32) := ok_aload_n rfl dL_law_123 rfl
theorem o_115_32 : ax_Ok 115 124 (ax_iload 3 33) := ok_iload_n rfl dL_law_124 rfl
theorem o_115_33 : ax_Ok 115 125 (ax_const 1 34) := ok_iconst (by decide) dL_law_125 rfl
theorem o_115_34 : ax_Ok 115 126 (ax_bin (fun x y => x + y) 35) := ok_iadd dL_law_126 rfl
theorem o_115_35 : ax_Ok 115 127 (ax_sld 36) := ok_sld dL_law_127 rfl
theorem o_115_36 : ax_Ok 115 128 (ax_un (fun x => (x.toUInt32 % 65536).toInt32) 37) := ok_i2c dL_law_128 rfl
theorem o_115_37 : ax_Ok 115 129 (ax_callV 7 76 1 38) := ok_callV (C := RX7) rfl rfl wd_495 wd_496 wd_497 wd_8 mo_76 (by decide) dL_law_129 rfl
theorem o_115_38 : ax_Ok 115 132 (ax_icmp (fun x y => decide (x = y)) 296 39) := ok_icmp_eq dL_law_132 (by decide) rfl
theorem o_115_39 : ax_Ok 115 135 (ax_const 0 40) := ok_iconst (by decide) dL_law_135 rfl
theorem o_115_40 : ax_Ok 115 136 (ax_ret 1) := ok_ret1 rfl dL_law_136
theorem o_115_41 : ax_Ok 115 137 (ax_aload 1 42) := ok_aload_n rfl dL_law_137 rfl
theorem o_115_42 : ax_Ok 115 138 (ax_callV 6 48 0 43) := ok_callV (C := RX6) rfl rfl wd_157 wd_158 wd_159 wd_1 mo_48 (by decide) dL_law_138 rfl
theorem o_115_43 : ax_Ok 115 141 (ax_aload 2 44) := ok_aload_n rfl dL_law_141 rfl
theorem o_115_44 : ax_Ok 115 142 (ax_callV 7 94 0 45) := ok_callV (C := RX7) rfl rfl wd_499 wd_500 wd_501 wd_8 mo_94 (by decide) dL_law_142 rfl
theorem o_115_45 : ax_Ok 115 145 (ax_icmp (fun x y => decide (x = y)) 296 46) := ok_icmp_eq dL_law_145 (by decide) rfl
theorem o_115_46 : ax_Ok 115 148 (ax_const 0 47) := ok_iconst (by decide) dL_law_148 rfl
theorem o_115_47 : ax_Ok 115 149 (ax_ret 1) := ok_ret1 rfl dL_law_149
theorem o_115_48 : ax_Ok 115 150 (ax_aload 1 49) := ok_aload_n rfl dL_law_150 rfl
theorem o_115_49 : ax_Ok 115 151 (ax_callV 6 49 0 50) := ok_callV (C := RX6) rfl rfl wd_288 wd_289 wd_290 wd_1 mo_49 (by decide) dL_law_151 rfl
theorem o_115_50 : ax_Ok 115 154 (ax_aload 2 51) := ok_aload_n rfl dL_law_154 rfl
theorem o_115_51 : ax_Ok 115 155 (ax_callV 7 96 0 52) := ok_callV (C := RX7) rfl rfl wd_567 wd_568 wd_569 wd_8 mo_96 (by decide) dL_law_155 rfl
theorem o_115_52 : ax_Ok 115 158 (ax_icmp (fun x y => decide (x = y)) 296 53) := ok_icmp_eq dL_law_158 (by decide) rfl
theorem o_115_53 : ax_Ok 115 161 (ax_const 0 54) := ok_iconst (by decide) dL_law_161 rfl
theorem o_115_54 : ax_Ok 115 162 (ax_ret 1) := ok_ret1 rfl dL_law_162
theorem o_115_55 : ax_Ok 115 163 (ax_aload 1 56) := ok_aload_n rfl dL_law_163 rfl
theorem o_115_56 : ax_Ok 115 164 (ax_aload 0 57) := ok_aload_n rfl dL_law_164 rfl
theorem o_115_57 : ax_Ok 115 165 (ax_iload 3 58) := ok_iload_n rfl dL_law_165 rfl
theorem o_115_58 : ax_Ok 115 166 (ax_const 1 59) := ok_iconst (by decide) dL_law_166 rfl
theorem o_115_59 : ax_Ok 115 167 (ax_bin (fun x y => x + y) 60) := ok_iadd dL_law_167 rfl
theorem o_115_60 : ax_Ok 115 168 (ax_sld 61) := ok_sld dL_law_168 rfl
theorem o_115_61 : ax_Ok 115 169 (ax_callV 6 50 1 62) := ok_callV (C := RX6) rfl rfl wd_292 wd_293 wd_294 wd_1 mo_50 (by decide) dL_law_169 rfl
theorem o_115_62 : ax_Ok 115 172 (ax_aload 2 63) := ok_aload_n rfl dL_law_172 rfl
theorem o_115_63 : ax_Ok 115 173 (ax_aload 0 64) := ok_aload_n rfl dL_law_173 rfl
theorem o_115_64 : ax_Ok 115 174 (ax_iload 3 65) := ok_iload_n rfl dL_law_174 rfl
theorem o_115_65 : ax_Ok 115 175 (ax_const 1 66) := ok_iconst (by decide) dL_law_175 rfl
theorem o_115_66 : ax_Ok 115 176 (ax_bin (fun x y => x + y) 67) := ok_iadd dL_law_176 rfl
theorem o_115_67 : ax_Ok 115 177 (ax_sld 68) := ok_sld dL_law_177 rfl
theorem o_115_68 : ax_Ok 115 178 (ax_callV 7 97 1 69) := ok_callV (C := RX7) rfl rfl wd_571 wd_572 wd_573 wd_8 mo_97 (by decide) dL_law_178 rfl
theorem o_115_69 : ax_Ok 115 181 (ax_icmp (fun x y => decide (x = y)) 296 70) := ok_icmp_eq dL_law_181 (by decide) rfl
theorem o_115_70 : ax_Ok 115 184 (ax_const 0 71) := ok_iconst (by decide) dL_law_184 rfl
theorem o_115_71 : ax_Ok 115 185 (ax_ret 1) := ok_ret1 rfl dL_law_185
theorem o_115_72 : ax_Ok 115 186 (ax_aload 1 73) := ok_aload_n rfl dL_law_186 rfl
theorem o_115_73 : ax_Ok 115 187 (ax_aload 0 74) := ok_aload_n rfl dL_law_187 rfl
theorem o_115_74 : ax_Ok 115 188 (ax_iload 3 75) := ok_iload_n rfl dL_law_188 rfl
theorem o_115_75 : ax_Ok 115 189 (ax_const 1 76) := ok_iconst (by decide) dL_law_189 rfl
theorem o_115_76 : ax_Ok 115 190 (ax_bin (fun x y => x + y) 77) := ok_iadd dL_law_190 rfl
theorem o_115_77 : ax_Ok 115 191 (ax_sld 78) := ok_sld dL_law_191 rfl
theorem o_115_78 : ax_Ok 115 192 (ax_aload 0 79) := ok_aload_n rfl dL_law_192 rfl
theorem o_115_79 : ax_Ok 115 193 (ax_iload 3 80) := ok_iload_n rfl dL_law_193 rfl
theorem o_115_80 : ax_Ok 115 194 (ax_const 2 81) := ok_iconst (by decide) dL_law_194 rfl
theorem o_115_81 : ax_Ok 115 195 (ax_bin (fun x y => x + y) 82) := ok_iadd dL_law_195 rfl
theorem o_115_82 : ax_Ok 115 196 (ax_sld 83) := ok_sld dL_law_196 rfl
theorem o_115_83 : ax_Ok 115 197 (ax_callV 6 51 2 84) := ok_callV (C := RX6) rfl rfl wd_304 wd_305 wd_306 wd_1 mo_51 (by decide) dL_law_197 rfl
theorem o_115_84 : ax_Ok 115 200 (ax_aload 2 85) := ok_aload_n rfl dL_law_200 rfl
theorem o_115_85 : ax_Ok 115 201 (ax_aload 0 86) := ok_aload_n rfl dL_law_201 rfl
theorem o_115_86 : ax_Ok 115 202 (ax_iload 3 87) := ok_iload_n rfl dL_law_202 rfl
theorem o_115_87 : ax_Ok 115 203 (ax_const 1 88) := ok_iconst (by decide) dL_law_203 rfl
theorem o_115_88 : ax_Ok 115 204 (ax_bin (fun x y => x + y) 89) := ok_iadd dL_law_204 rfl
theorem o_115_89 : ax_Ok 115 205 (ax_sld 90) := ok_sld dL_law_205 rfl
theorem o_115_90 : ax_Ok 115 206 (ax_aload 0 91) := ok_aload_n rfl dL_law_206 rfl
theorem o_115_91 : ax_Ok 115 207 (ax_iload 3 92) := ok_iload_n rfl dL_law_207 rfl
theorem o_115_92 : ax_Ok 115 208 (ax_const 2 93) := ok_iconst (by decide) dL_law_208 rfl
theorem o_115_93 : ax_Ok 115 209 (ax_bin (fun x y => x + y) 94) := ok_iadd dL_law_209 rfl
theorem o_115_94 : ax_Ok 115 210 (ax_sld 95) := ok_sld dL_law_210 rfl
theorem o_115_95 : ax_Ok 115 211 (ax_callV 7 98 2 96) := ok_callV (C := RX7) rfl rfl wd_578 wd_579 wd_580 wd_8 mo_98 (by decide) dL_law_211 rfl
theorem o_115_96 : ax_Ok 115 214 (ax_icmp (fun x y => decide (x = y)) 296 97) := ok_icmp_eq dL_law_214 (by decide) rfl
theorem o_115_97 : ax_Ok 115 217 (ax_const 0 98) := ok_iconst (by decide) dL_law_217 rfl
theorem o_115_98 : ax_Ok 115 218 (ax_ret 1) := ok_ret1 rfl dL_law_218
theorem o_115_99 : ax_Ok 115 219 (ax_aload 1 100) := ok_aload_n rfl dL_law_219 rfl
theorem o_115_100 : ax_Ok 115 220 (ax_callV 6 52 0 101) := ok_callV (C := RX6) rfl rfl wd_309 wd_310 wd_311 wd_1 mo_52 (by decide) dL_law_220 rfl
theorem o_115_101 : ax_Ok 115 223 (ax_aload 2 102) := ok_aload_n rfl dL_law_223 rfl
theorem o_115_102 : ax_Ok 115 224 (ax_callV 7 102 0 103) := ok_callV (C := RX7) rfl rfl wd_582 wd_583 wd_584 wd_8 mo_102 (by decide) dL_law_224 rfl
theorem o_115_103 : ax_Ok 115 227 (ax_icmp (fun x y => decide (x = y)) 296 104) := ok_icmp_eq dL_law_227 (by decide) rfl
theorem o_115_104 : ax_Ok 115 230 (ax_const 0 105) := ok_iconst (by decide) dL_law_230 rfl
theorem o_115_105 : ax_Ok 115 231 (ax_ret 1) := ok_ret1 rfl dL_law_231
theorem o_115_106 : ax_Ok 115 232 (ax_aload 1 107) := ok_aload_n rfl dL_law_232 rfl
theorem o_115_107 : ax_Ok 115 233 (ax_aload 0 108) := ok_aload_n rfl dL_law_233 rfl
theorem o_115_108 : ax_Ok 115 234 (ax_iload 3 109) := ok_iload_n rfl dL_law_234 rfl
theorem o_115_109 : ax_Ok 115 235 (ax_const 1 110) := ok_iconst (by decide) dL_law_235 rfl
theorem o_115_110 : ax_Ok 115 236 (ax_bin (fun x y => x + y) 111) := ok_iadd dL_law_236 rfl
theorem o_115_111 : ax_Ok 115 237 (ax_sld 112) := ok_sld dL_law_237 rfl
theorem o_115_112 : ax_Ok 115 238 (ax_callV 6 53 1 113) := ok_callV (C := RX6) rfl rfl wd_331 wd_332 wd_333 wd_1 mo_53 (by decide) dL_law_238 rfl
theorem o_115_113 : ax_Ok 115 241 (ax_aload 2 114) := ok_aload_n rfl dL_law_241 rfl
theorem o_115_114 : ax_Ok 115 242 (ax_aload 0 115) := ok_aload_n rfl dL_law_242 rfl
theorem o_115_115 : ax_Ok 115 243 (ax_iload 3 116) := ok_iload_n rfl dL_law_243 rfl
theorem o_115_116 : ax_Ok 115 244 (ax_const 1 117) := ok_iconst (by decide) dL_law_244 rfl
theorem o_115_117 : ax_Ok 115 245 (ax_bin (fun x y => x + y) 118) := ok_iadd dL_law_245 rfl
theorem o_115_118 : ax_Ok 115 246 (ax_sld 119) := ok_sld dL_law_246 rfl
theorem o_115_119 : ax_Ok 115 247 (ax_callV 7 103 1 120) := ok_callV (C := RX7) rfl rfl wd_598 wd_599 wd_600 wd_8 mo_103 (by decide) dL_law_247 rfl
theorem o_115_120 : ax_Ok 115 250 (ax_icmp (fun x y => decide (x = y)) 296 121) := ok_icmp_eq dL_law_250 (by decide) rfl
theorem o_115_121 : ax_Ok 115 253 (ax_const 0 122) := ok_iconst (by decide) dL_law_253 rfl
theorem o_115_122 : ax_Ok 115 254 (ax_ret 1) := ok_ret1 rfl dL_law_254
theorem o_115_123 : ax_Ok 115 255 (ax_aload 1 124) := ok_aload_n rfl dL_law_255 rfl
theorem o_115_124 : ax_Ok 115 256 (ax_aload 0 125) := ok_aload_n rfl dL_law_256 rfl
theorem o_115_125 : ax_Ok 115 257 (ax_iload 3 126) := ok_iload_n rfl dL_law_257 rfl
theorem o_115_126 : ax_Ok 115 258 (ax_const 1 127) := ok_iconst (by decide) dL_law_258 rfl
theorem o_115_127 : ax_Ok 115 259 (ax_bin (fun x y => x + y) 128) := ok_iadd dL_law_259 rfl
theorem o_115_128 : ax_Ok 115 260 (ax_sld 129) := ok_sld dL_law_260 rfl
theorem o_115_129 : ax_Ok 115 261 (ax_callV 6 54 1 130) := ok_callV (C := RX6) rfl rfl wd_344 wd_345 wd_346 wd_1 mo_54 (by decide) dL_law_261 rfl
theorem o_115_130 : ax_Ok 115 264 (ax_aload 2 131) := ok_aload_n rfl dL_law_264 rfl
theorem o_115_131 : ax_Ok 115 265 (ax_aload 0 132) := ok_aload_n rfl dL_law_265 rfl
theorem o_115_132 : ax_Ok 115 266 (ax_iload 3 133) := ok_iload_n rfl dL_law_266 rfl
theorem o_115_133 : ax_Ok 115 267 (ax_const 1 134) := ok_iconst (by decide) dL_law_267 rfl
theorem o_115_134 : ax_Ok 115 268 (ax_bin (fun x y => x + y) 135) := ok_iadd dL_law_268 rfl
theorem o_115_135 : ax_Ok 115 269 (ax_sld 136) := ok_sld dL_law_269 rfl
theorem o_115_136 : ax_Ok 115 270 (ax_callV 7 104 1 137) := ok_callV (C := RX7) rfl rfl wd_602 wd_603 wd_604 wd_8 mo_104 (by decide) dL_law_270 rfl
theorem o_115_137 : ax_Ok 115 273 (ax_icmp (fun x y => decide (x = y)) 296 138) := ok_icmp_eq dL_law_273 (by decide) rfl
theorem o_115_138 : ax_Ok 115 276 (ax_const 0 139) := ok_iconst (by decide) dL_law_276 rfl
theorem o_115_139 : ax_Ok 115 277 (ax_ret 1) := ok_ret1 rfl dL_law_277
theorem o_115_140 : ax_Ok 115 278 (ax_aload 1 141) := ok_aload_n rfl dL_law_278 rfl
theorem o_115_141 : ax_Ok 115 279 (ax_aload 0 142) := ok_aload_n rfl dL_law_279 rfl
theorem o_115_142 : ax_Ok 115 280 (ax_iload 3 143) := ok_iload_n rfl dL_law_280 rfl
theorem o_115_143 : ax_Ok 115 281 (ax_const 1 144) := ok_iconst (by decide) dL_law_281 rfl
theorem o_115_144 : ax_Ok 115 282 (ax_bin (fun x y => x + y) 145) := ok_iadd dL_law_282 rfl
theorem o_115_145 : ax_Ok 115 283 (ax_sld 146) := ok_sld dL_law_283 rfl
theorem o_115_146 : ax_Ok 115 284 (ax_aload 0 147) := ok_aload_n rfl dL_law_284 rfl
theorem o_115_147 : ax_Ok 115 285 (ax_iload 3 148) := ok_iload_n rfl dL_law_285 rfl
theorem o_115_148 : ax_Ok 115 286 (ax_const 2 149) := ok_iconst (by decide) dL_law_286 rfl
theorem o_115_149 : ax_Ok 115 287 (ax_bin (fun x y => x + y) 150) := ok_iadd dL_law_287 rfl
theorem o_115_150 : ax_Ok 115 288 (ax_sld 151) := ok_sld dL_law_288 rfl
theorem o_115_151 : ax_Ok 115 289 (ax_callV 6 55 2 152) := ok_callV (C := RX6) rfl rfl wd_352 wd_353 wd_354 wd_1 mo_55 (by decide) dL_law_289 rfl
theorem o_115_152 : ax_Ok 115 292 (ax_aload 2 153) := ok_aload_n rfl dL_law_292 rfl
theorem o_115_153 : ax_Ok 115 293 (ax_aload 0 154) := ok_aload_n rfl dL_law_293 rfl
theorem o_115_154 : ax_Ok 115 294 (ax_iload 3 155) := ok_iload_n rfl dL_law_294 rfl
theorem o_115_155 : ax_Ok 115 295 (ax_const 1 156) := ok_iconst (by decide) dL_law_295 rfl
theorem o_115_156 : ax_Ok 115 296 (ax_bin (fun x y => x + y) 157) := ok_iadd dL_law_296 rfl
theorem o_115_157 : ax_Ok 115 297 (ax_sld 158) := ok_sld dL_law_297 rfl
theorem o_115_158 : ax_Ok 115 298 (ax_aload 0 159) := ok_aload_n rfl dL_law_298 rfl
theorem o_115_159 : ax_Ok 115 299 (ax_iload 3 160) := ok_iload_n rfl dL_law_299 rfl
theorem o_115_160 : ax_Ok 115 300 (ax_const 2 161) := ok_iconst (by decide) dL_law_300 rfl
theorem o_115_161 : ax_Ok 115 301 (ax_bin (fun x y => x + y) 162) := ok_iadd dL_law_301 rfl
theorem o_115_162 : ax_Ok 115 302 (ax_sld 163) := ok_sld dL_law_302 rfl
theorem o_115_163 : ax_Ok 115 303 (ax_callV 7 106 2 164) := ok_callV (C := RX7) rfl rfl wd_607 wd_608 wd_609 wd_8 mo_106 (by decide) dL_law_303 rfl
theorem o_115_164 : ax_Ok 115 306 (ax_icmp (fun x y => decide (x = y)) 296 165) := ok_icmp_eq dL_law_306 (by decide) rfl
theorem o_115_165 : ax_Ok 115 309 (ax_const 0 166) := ok_iconst (by decide) dL_law_309 rfl
theorem o_115_166 : ax_Ok 115 310 (ax_ret 1) := ok_ret1 rfl dL_law_310
theorem o_115_167 : ax_Ok 115 311 (ax_aload 1 168) := ok_aload_n rfl dL_law_311 rfl
theorem o_115_168 : ax_Ok 115 312 (ax_aload 0 169) := ok_aload_n rfl dL_law_312 rfl
theorem o_115_169 : ax_Ok 115 313 (ax_iload 3 170) := ok_iload_n rfl dL_law_313 rfl
theorem o_115_170 : ax_Ok 115 314 (ax_const 1 171) := ok_iconst (by decide) dL_law_314 rfl
theorem o_115_171 : ax_Ok 115 315 (ax_bin (fun x y => x + y) 172) := ok_iadd dL_law_315 rfl
theorem o_115_172 : ax_Ok 115 316 (ax_sld 173) := ok_sld dL_law_316 rfl
theorem o_115_173 : ax_Ok 115 317 (ax_aload 0 174) := ok_aload_n rfl dL_law_317 rfl
theorem o_115_174 : ax_Ok 115 318 (ax_iload 3 175) := ok_iload_n rfl dL_law_318 rfl
theorem o_115_175 : ax_Ok 115 319 (ax_const 2 176) := ok_iconst (by decide) dL_law_319 rfl
theorem o_115_176 : ax_Ok 115 320 (ax_bin (fun x y => x + y) 177) := ok_iadd dL_law_320 rfl
theorem o_115_177 : ax_Ok 115 321 (ax_sld 178) := ok_sld dL_law_321 rfl
theorem o_115_178 : ax_Ok 115 322 (ax_callV 6 56 2 179) := ok_callV (C := RX6) rfl rfl wd_362 wd_363 wd_364 wd_1 mo_56 (by decide) dL_law_322 rfl
theorem o_115_179 : ax_Ok 115 325 (ax_aload 2 180) := ok_aload_n rfl dL_law_325 rfl
theorem o_115_180 : ax_Ok 115 326 (ax_aload 0 181) := ok_aload_n rfl dL_law_326 rfl
theorem o_115_181 : ax_Ok 115 327 (ax_iload 3 182) := ok_iload_n rfl dL_law_327 rfl
theorem o_115_182 : ax_Ok 115 328 (ax_const 1 183) := ok_iconst (by decide) dL_law_328 rfl
theorem o_115_183 : ax_Ok 115 329 (ax_bin (fun x y => x + y) 184) := ok_iadd dL_law_329 rfl
theorem o_115_184 : ax_Ok 115 330 (ax_sld 185) := ok_sld dL_law_330 rfl
theorem o_115_185 : ax_Ok 115 331 (ax_aload 0 186) := ok_aload_n rfl dL_law_331 rfl
theorem o_115_186 : ax_Ok 115 332 (ax_iload 3 187) := ok_iload_n rfl dL_law_332 rfl
theorem o_115_187 : ax_Ok 115 333 (ax_const 2 188) := ok_iconst (by decide) dL_law_333 rfl
theorem o_115_188 : ax_Ok 115 334 (ax_bin (fun x y => x + y) 189) := ok_iadd dL_law_334 rfl
theorem o_115_189 : ax_Ok 115 335 (ax_sld 190) := ok_sld dL_law_335 rfl
theorem o_115_190 : ax_Ok 115 336 (ax_callV 7 107 2 191) := ok_callV (C := RX7) rfl rfl wd_615 wd_616 wd_617 wd_8 mo_107 (by decide) dL_law_336 rfl
theorem o_115_191 : ax_Ok 115 339 (ax_icmp (fun x y => decide (x = y)) 296 192) := ok_icmp_eq dL_law_339 (by decide) rfl
theorem o_115_192 : ax_Ok 115 342 (ax_const 0 193) := ok_iconst (by decide) dL_law_342 rfl
theorem o_115_193 : ax_Ok 115 343 (ax_ret 1) := ok_ret1 rfl dL_law_343
theorem o_115_194 : ax_Ok 115 344 (ax_aload 1 195) := ok_aload_n rfl dL_law_344 rfl
theorem o_115_195 : ax_Ok 115 345 (ax_aload 0 196) := ok_aload_n rfl dL_law_345 rfl
theorem o_115_196 : ax_Ok 115 346 (ax_iload 3 197) := ok_iload_n rfl dL_law_346 rfl
theorem o_115_197 : ax_Ok 115 347 (ax_const 1 198) := ok_iconst (by decide) dL_law_347 rfl
theorem o_115_198 : ax_Ok 115 348 (ax_bin (fun x y => x + y) 199) := ok_iadd dL_law_348 rfl
theorem o_115_199 : ax_Ok 115 349 (ax_sld 200) := ok_sld dL_law_349 rfl
theorem o_115_200 : ax_Ok 115 350 (ax_callV 6 57 1 201) := ok_callV (C := RX6) rfl rfl wd_383 wd_384 wd_385 wd_1 mo_57 (by decide) dL_law_350 rfl
theorem o_115_201 : ax_Ok 115 353 (ax_aload 2 202) := ok_aload_n rfl dL_law_353 rfl
theorem o_115_202 : ax_Ok 115 354 (ax_aload 0 203) := ok_aload_n rfl dL_law_354 rfl
theorem o_115_203 : ax_Ok 115 355 (ax_iload 3 204) := ok_iload_n rfl dL_law_355 rfl
theorem o_115_204 : ax_Ok 115 356 (ax_const 1 205) := ok_iconst (by decide) dL_law_356 rfl
theorem o_115_205 : ax_Ok 115 357 (ax_bin (fun x y => x + y) 206) := ok_iadd dL_law_357 rfl
theorem o_115_206 : ax_Ok 115 358 (ax_sld 207) := ok_sld dL_law_358 rfl
theorem o_115_207 : ax_Ok 115 359 (ax_callV 7 108 1 208) := ok_callV (C := RX7) rfl rfl wd_621 wd_622 wd_623 wd_8 mo_108 (by decide) dL_law_359 rfl
theorem o_115_208 : ax_Ok 115 362 (ax_icmp (fun x y => decide (x = y)) 296 209) := ok_icmp_eq dL_law_362 (by decide) rfl
theorem o_115_209 : ax_Ok 115 365 (ax_const 0 210) := ok_iconst (by decide) dL_law_365 rfl
theorem o_115_210 : ax_Ok 115 366 (ax_ret 1) := ok_ret1 rfl dL_law_366
theorem o_115_211 : ax_Ok 115 367 (ax_aload 1 212) := ok_aload_n rfl dL_law_367 rfl
theorem o_115_212 : ax_Ok 115 368 (ax_aload 0 213) := ok_aload_n rfl dL_law_368 rfl
theorem o_115_213 : ax_Ok 115 369 (ax_iload 3 214) := ok_iload_n rfl dL_law_369 rfl
theorem o_115_214 : ax_Ok 115 370 (ax_const 1 215) := ok_iconst (by decide) dL_law_370 rfl
theorem o_115_215 : ax_Ok 115 371 (ax_bin (fun x y => x + y) 216) := ok_iadd dL_law_371 rfl
theorem o_115_216 : ax_Ok 115 372 (ax_sld 217) := ok_sld dL_law_372 rfl
theorem o_115_217 : ax_Ok 115 373 (ax_aload 0 218) := ok_aload_n rfl dL_law_373 rfl
theorem o_115_218 : ax_Ok 115 374 (ax_iload 3 219) := ok_iload_n rfl dL_law_374 rfl
theorem o_115_219 : ax_Ok 115 375 (ax_const 2 220) := ok_iconst (by decide) dL_law_375 rfl
theorem o_115_220 : ax_Ok 115 376 (ax_bin (fun x y => x + y) 221) := ok_iadd dL_law_376 rfl
theorem o_115_221 : ax_Ok 115 377 (ax_sld 222) := ok_sld dL_law_377 rfl
theorem o_115_222 : ax_Ok 115 378 (ax_callV 6 58 2 223) := ok_callV (C := RX6) rfl rfl wd_399 wd_400 wd_401 wd_1 mo_58 (by decide) dL_law_378 rfl
theorem o_115_223 : ax_Ok 115 381 (ax_aload 2 224) := ok_aload_n rfl dL_law_381 rfl
theorem o_115_224 : ax_Ok 115 382 (ax_aload 0 225) := ok_aload_n rfl dL_law_382 rfl
theorem o_115_225 : ax_Ok 115 383 (ax_iload 3 226) := ok_iload_n rfl dL_law_383 rfl
theorem o_115_226 : ax_Ok 115 384 (ax_const 1 227) := ok_iconst (by decide) dL_law_384 rfl
theorem o_115_227 : ax_Ok 115 385 (ax_bin (fun x y => x + y) 228) := ok_iadd dL_law_385 rfl
theorem o_115_228 : ax_Ok 115 386 (ax_sld 229) := ok_sld dL_law_386 rfl
theorem o_115_229 : ax_Ok 115 387 (ax_aload 0 230) := ok_aload_n rfl dL_law_387 rfl
theorem o_115_230 : ax_Ok 115 388 (ax_iload 3 231) := ok_iload_n rfl dL_law_388 rfl
theorem o_115_231 : ax_Ok 115 389 (ax_const 2 232) := ok_iconst (by decide) dL_law_389 rfl
theorem o_115_232 : ax_Ok 115 390 (ax_bin (fun x y => x + y) 233) := ok_iadd dL_law_390 rfl
theorem o_115_233 : ax_Ok 115 391 (ax_sld 234) := ok_sld dL_law_391 rfl
theorem o_115_234 : ax_Ok 115 392 (ax_callV 7 109 2 235) := ok_callV (C := RX7) rfl rfl wd_625 wd_626 wd_627 wd_8 mo_109 (by decide) dL_law_392 rfl
theorem o_115_235 : ax_Ok 115 395 (ax_icmp (fun x y => decide (x = y)) 296 236) := ok_icmp_eq dL_law_395 (by decide) rfl
theorem o_115_236 : ax_Ok 115 398 (ax_const 0 237) := ok_iconst (by decide) dL_law_398 rfl
theorem o_115_237 : ax_Ok 115 399 (ax_ret 1) := ok_ret1 rfl dL_law_399
theorem o_115_238 : ax_Ok 115 400 (ax_aload 1 239) := ok_aload_n rfl dL_law_400 rfl
theorem o_115_239 : ax_Ok 115 401 (ax_aload 0 240) := ok_aload_n rfl dL_law_401 rfl
theorem o_115_240 : ax_Ok 115 402 (ax_iload 3 241) := ok_iload_n rfl dL_law_402 rfl
theorem o_115_241 : ax_Ok 115 403 (ax_const 1 242) := ok_iconst (by decide) dL_law_403 rfl
theorem o_115_242 : ax_Ok 115 404 (ax_bin (fun x y => x + y) 243) := ok_iadd dL_law_404 rfl
theorem o_115_243 : ax_Ok 115 405 (ax_sld 244) := ok_sld dL_law_405 rfl
theorem o_115_244 : ax_Ok 115 406 (ax_aload 0 245) := ok_aload_n rfl dL_law_406 rfl
theorem o_115_245 : ax_Ok 115 407 (ax_iload 3 246) := ok_iload_n rfl dL_law_407 rfl
theorem o_115_246 : ax_Ok 115 408 (ax_const 2 247) := ok_iconst (by decide) dL_law_408 rfl
theorem o_115_247 : ax_Ok 115 409 (ax_bin (fun x y => x + y) 248) := ok_iadd dL_law_409 rfl
theorem o_115_248 : ax_Ok 115 410 (ax_sld 249) := ok_sld dL_law_410 rfl
theorem o_115_249 : ax_Ok 115 411 (ax_aload 0 250) := ok_aload_n rfl dL_law_411 rfl
theorem o_115_250 : ax_Ok 115 412 (ax_iload 3 251) := ok_iload_n rfl dL_law_412 rfl
theorem o_115_251 : ax_Ok 115 413 (ax_const 3 252) := ok_iconst (by decide) dL_law_413 rfl
theorem o_115_252 : ax_Ok 115 414 (ax_bin (fun x y => x + y) 253) := ok_iadd dL_law_414 rfl
theorem o_115_253 : ax_Ok 115 415 (ax_sld 254) := ok_sld dL_law_415 rfl
theorem o_115_254 : ax_Ok 115 416 (ax_callV 6 59 3 255) := ok_callV (C := RX6) rfl rfl wd_403 wd_404 wd_405 wd_1 mo_59 (by decide) dL_law_416 rfl
theorem o_115_255 : ax_Ok 115 419 (ax_aload 2 256) := ok_aload_n rfl dL_law_419 rfl
theorem o_115_256 : ax_Ok 115 420 (ax_aload 0 257) := ok_aload_n rfl dL_law_420 rfl
theorem o_115_257 : ax_Ok 115 421 (ax_iload 3 258) := ok_iload_n rfl dL_law_421 rfl
theorem o_115_258 : ax_Ok 115 422 (ax_const 1 259) := ok_iconst (by decide) dL_law_422 rfl
theorem o_115_259 : ax_Ok 115 423 (ax_bin (fun x y => x + y) 260) := ok_iadd dL_law_423 rfl
theorem o_115_260 : ax_Ok 115 424 (ax_sld 261) := ok_sld dL_law_424 rfl
theorem o_115_261 : ax_Ok 115 425 (ax_aload 0 262) := ok_aload_n rfl dL_law_425 rfl
theorem o_115_262 : ax_Ok 115 426 (ax_iload 3 263) := ok_iload_n rfl dL_law_426 rfl
theorem o_115_263 : ax_Ok 115 427 (ax_const 2 264) := ok_iconst (by decide) dL_law_427 rfl
theorem o_115_264 : ax_Ok 115 428 (ax_bin (fun x y => x + y) 265) := ok_iadd dL_law_428 rfl
theorem o_115_265 : ax_Ok 115 429 (ax_sld 266) := ok_sld dL_law_429 rfl
theorem o_115_266 : ax_Ok 115 430 (ax_aload 0 267) := ok_aload_n rfl dL_law_430 rfl
theorem o_115_267 : ax_Ok 115 431 (ax_iload 3 268) := ok_iload_n rfl dL_law_431 rfl
theorem o_115_268 : ax_Ok 115 432 (ax_const 3 269) := ok_iconst (by decide) dL_law_432 rfl
theorem o_115_269 : ax_Ok 115 433 (ax_bin (fun x y => x + y) 270) := ok_iadd dL_law_433 rfl
theorem o_115_270 : ax_Ok 115 434 (ax_sld 271) := ok_sld dL_law_434 rfl
theorem o_115_271 : ax_Ok 115 435 (ax_callV 7 110 3 272) := ok_callV (C := RX7) rfl rfl wd_629 wd_630 wd_631 wd_8 mo_110 (by decide) dL_law_435 rfl
theorem o_115_272 : ax_Ok 115 438 (ax_icmp (fun x y => decide (x = y)) 296 273) := ok_icmp_eq dL_law_438 (by decide) rfl
theorem o_115_273 : ax_Ok 115 441 (ax_const 0 274) := ok_iconst (by decide) dL_law_441 rfl
theorem o_115_274 : ax_Ok 115 442 (ax_ret 1) := ok_ret1 rfl dL_law_442
theorem o_115_275 : ax_Ok 115 443 (ax_aload 1 276) := ok_aload_n rfl dL_law_443 rfl
theorem o_115_276 : ax_Ok 115 444 (ax_callV 6 60 0 277) := ok_callV (C := RX6) rfl rfl wd_407 wd_408 wd_409 wd_1 mo_60 (by decide) dL_law_444 rfl
theorem o_115_277 : ax_Ok 115 447 (ax_aload 2 278) := ok_aload_n rfl dL_law_447 rfl
theorem o_115_278 : ax_Ok 115 448 (ax_callV 7 111 0 279) := ok_callV (C := RX7) rfl rfl wd_634 wd_635 wd_636 wd_8 mo_111 (by decide) dL_law_448 rfl
theorem o_115_279 : ax_Ok 115 451 (ax_icmp (fun x y => decide (x = y)) 296 280) := ok_icmp_eq dL_law_451 (by decide) rfl
theorem o_115_280 : ax_Ok 115 454 (ax_const 0 281) := ok_iconst (by decide) dL_law_454 rfl
theorem o_115_281 : ax_Ok 115 455 (ax_ret 1) := ok_ret1 rfl dL_law_455
theorem o_115_282 : ax_Ok 115 456 (ax_aload 1 283) := ok_aload_n rfl dL_law_456 rfl
theorem o_115_283 : ax_Ok 115 457 (ax_callV 6 61 0 284) := ok_callV (C := RX6) rfl rfl wd_411 wd_412 wd_413 wd_1 mo_61 (by decide) dL_law_457 rfl
theorem o_115_284 : ax_Ok 115 460 (ax_aload 2 285) := ok_aload_n rfl dL_law_460 rfl
theorem o_115_285 : ax_Ok 115 461 (ax_callV 7 113 0 286) := ok_callV (C := RX7) rfl rfl wd_638 wd_639 wd_640 wd_8 mo_113 (by decide) dL_law_461 rfl
theorem o_115_286 : ax_Ok 115 464 (ax_icmp (fun x y => decide (x = y)) 296 287) := ok_icmp_eq dL_law_464 (by decide) rfl
theorem o_115_287 : ax_Ok 115 467 (ax_const 0 288) := ok_iconst (by decide) dL_law_467 rfl
theorem o_115_288 : ax_Ok 115 468 (ax_ret 1) := ok_ret1 rfl dL_law_468
theorem o_115_289 : ax_Ok 115 469 (ax_aload 1 290) := ok_aload_n rfl dL_law_469 rfl
theorem o_115_290 : ax_Ok 115 470 (ax_callV 6 62 0 291) := ok_callV (C := RX6) rfl rfl wd_419 wd_420 wd_421 wd_1 mo_62 (by decide) dL_law_470 rfl
theorem o_115_291 : ax_Ok 115 473 (ax_aload 2 292) := ok_aload_n rfl dL_law_473 rfl
theorem o_115_292 : ax_Ok 115 474 (ax_callV 7 114 0 293) := ok_callV (C := RX7) rfl rfl wd_647 wd_648 wd_649 wd_8 mo_114 (by decide) dL_law_474 rfl
theorem o_115_293 : ax_Ok 115 477 (ax_icmp (fun x y => decide (x = y)) 296 294) := ok_icmp_eq dL_law_477 (by decide) rfl
theorem o_115_294 : ax_Ok 115 480 (ax_const 0 295) := ok_iconst (by decide) dL_law_480 rfl
theorem o_115_295 : ax_Ok 115 481 (ax_ret 1) := ok_ret1 rfl dL_law_481
theorem o_115_296 : ax_Ok 115 482 (ax_iinc 3 4 297) := ok_iinc (by decide) (by decide) dL_law_482 rfl
theorem o_115_297 : ax_Ok 115 485 (ax_goto 10) := ok_goto dL_law_485 (by decide)
theorem o_115_298 : ax_Ok 115 488 (ax_const 1 299) := ok_iconst (by decide) dL_law_488 rfl
theorem o_115_299 : ax_Ok 115 489 (ax_ret 1) := ok_ret1 rfl dL_law_489
