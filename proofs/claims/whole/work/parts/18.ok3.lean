theorem o_80_6 : ax_Ok 80 10 (ax_aload 0 7) := ok_aload_n rfl dX7_piece_10 rfl
theorem o_80_7 : ax_Ok 80 11 (ax_get 7 4 8) := ok_get (C := RX7) (T := TX7) (N := 19) rfl in_X7 (by decide) wd_441 rfl dX7_piece_11 rfl
theorem o_80_8 : ax_Ok 80 14 (ax_aload 0 9) := ok_aload_n rfl dX7_piece_14 rfl
theorem o_80_9 : ax_Ok 80 15 (ax_get 7 2 10) := ok_get (C := RX7) (T := TX7) (N := 19) rfl in_X7 (by decide) wd_439 rfl dX7_piece_15 rfl
theorem o_80_10 : ax_Ok 80 18 (ax_iload 2 11) := ok_iload_n rfl dX7_piece_18 rfl
theorem o_80_11 : ax_Ok 80 19 (ax_ast 0 12) := ok_iast dX7_piece_19 rfl
theorem o_80_12 : ax_Ok 80 20 (ax_aload 0 13) := ok_aload_n rfl dX7_piece_20 rfl
theorem o_80_13 : ax_Ok 80 21 (ax_get 7 5 14) := ok_get (C := RX7) (T := TX7) (N := 19) rfl in_X7 (by decide) wd_442 rfl dX7_piece_21 rfl
theorem o_80_14 : ax_Ok 80 24 (ax_aload 0 15) := ok_aload_n rfl dX7_piece_24 rfl
theorem o_80_15 : ax_Ok 80 25 (ax_get 7 2 16) := ok_get (C := RX7) (T := TX7) (N := 19) rfl in_X7 (by decide) wd_439 rfl dX7_piece_25 rfl
theorem o_80_16 : ax_Ok 80 28 (ax_iload 3 17) := ok_iload_n rfl dX7_piece_28 rfl
theorem o_80_17 : ax_Ok 80 29 (ax_ast 0 18) := ok_iast dX7_piece_29 rfl
theorem o_80_18 : ax_Ok 80 30 (ax_aload 0 19) := ok_aload_n rfl dX7_piece_30 rfl
theorem o_80_19 : ax_Ok 80 31 (ax_get 7 6 20) := ok_get (C := RX7) (T := TX7) (N := 19) rfl in_X7 (by decide) wd_443 rfl dX7_piece_31 rfl
theorem o_80_20 : ax_Ok 80 34 (ax_aload 0 21) := ok_aload_n rfl dX7_piece_34 rfl
theorem o_80_21 : ax_Ok 80 35 (ax_get 7 2 22) := ok_get (C := RX7) (T := TX7) (N := 19) rfl in_X7 (by decide) wd_439 rfl dX7_piece_35 rfl
theorem o_80_22 : ax_Ok 80 38 (ax_iload 4 23) := ok_iload dX7_piece_38 rfl
theorem o_80_23 : ax_Ok 80 40 (ax_ast 0 24) := ok_iast dX7_piece_40 rfl
theorem o_80_24 : ax_Ok 80 41 (ax_aload 0 25) := ok_aload_n rfl dX7_piece_41 rfl
theorem o_80_25 : ax_Ok 80 42 (ax_get 7 7 26) := ok_get (C := RX7) (T := TX7) (N := 19) rfl in_X7 (by decide) wd_444 rfl dX7_piece_42 rfl
theorem o_80_26 : ax_Ok 80 45 (ax_aload 0 27) := ok_aload_n rfl dX7_piece_45 rfl
theorem o_80_27 : ax_Ok 80 46 (ax_get 7 2 28) := ok_get (C := RX7) (T := TX7) (N := 19) rfl in_X7 (by decide) wd_439 rfl dX7_piece_46 rfl
theorem o_80_28 : ax_Ok 80 49 (ax_iload 5 29) := ok_iload dX7_piece_49 rfl
theorem o_80_29 : ax_Ok 80 51 (ax_ast 0 30) := ok_iast dX7_piece_51 rfl
theorem o_80_30 : ax_Ok 80 52 (ax_aload 0 31) := ok_aload_n rfl dX7_piece_52 rfl
theorem o_80_31 : ax_Ok 80 53 (ax_dup 32) := ok_dup dX7_piece_53 rfl
theorem o_80_32 : ax_Ok 80 54 (ax_get 7 2 33) := ok_get (C := RX7) (T := TX7) (N := 19) rfl in_X7 (by decide) wd_439 rfl dX7_piece_54 rfl
theorem o_80_33 : ax_Ok 80 57 (ax_const 1 34) := ok_iconst (by decide) dX7_piece_57 rfl
theorem o_80_34 : ax_Ok 80 58 (ax_bin (fun x y => x + y) 35) := ok_iadd dX7_piece_58 rfl
theorem o_80_35 : ax_Ok 80 59 (ax_put 7 2 0 36) := ok_put (C := RX7) (T := TX7) (N := 19) rfl in_X7 tyX7 tyX7_ok nmX7 (by decide) wd_439 rfl rfl rfl dX7_piece_59 rfl
theorem o_80_36 : ax_Ok 80 62 (ax_aload 0 37) := ok_aload_n rfl dX7_piece_62 rfl
theorem o_80_37 : ax_Ok 80 63 (ax_get 7 2 38) := ok_get (C := RX7) (T := TX7) (N := 19) rfl in_X7 (by decide) wd_439 rfl dX7_piece_63 rfl
theorem o_80_38 : ax_Ok 80 66 (ax_const 1 39) := ok_iconst (by decide) dX7_piece_66 rfl
theorem o_80_39 : ax_Ok 80 67 (ax_bin (fun x y => x - y) 40) := ok_isub dX7_piece_67 rfl
theorem o_80_40 : ax_Ok 80 68 (ax_ret 0) := ok_ret0 rfl dX7_piece_68
theorem o_81_0 : ax_Ok 81 0 (ax_iload 1 1) := ok_iload_n rfl dX7_ended_0 rfl
theorem o_81_1 : ax_Ok 81 1 (ax_istore 2 2) := ok_istore_n rfl (by decide) dX7_ended_1 rfl
theorem o_81_2 : ax_Ok 81 2 (ax_iload 2 3) := ok_iload_n rfl dX7_ended_2 rfl
theorem o_81_3 : ax_Ok 81 3 (ax_if (fun x => decide (x < 0)) 16 4) := ok_if_lt dX7_ended_3 (by decide) rfl
theorem o_81_4 : ax_Ok 81 6 (ax_aload 0 5) := ok_aload_n rfl dX7_ended_6 rfl
theorem o_81_5 : ax_Ok 81 7 (ax_get 7 3 6) := ok_get (C := RX7) (T := TX7) (N := 19) rfl in_X7 (by decide) wd_440 rfl dX7_ended_7 rfl
theorem o_81_6 : ax_Ok 81 10 (ax_iload 2 7) := ok_iload_n rfl dX7_ended_10 rfl
theorem o_81_7 : ax_Ok 81 11 (ax_ald 0 8) := ok_iald dX7_ended_11 rfl
theorem o_81_8 : ax_Ok 81 12 (ax_const 2 9) := ok_iconst (by decide) dX7_ended_12 rfl
theorem o_81_9 : ax_Ok 81 13 (ax_icmp (fun x y => decide (¬ x = y)) 16 10) := ok_icmp_ne dX7_ended_13 (by decide) rfl
theorem o_81_10 : ax_Ok 81 16 (ax_aload 0 11) := ok_aload_n rfl dX7_ended_16 rfl
theorem o_81_11 : ax_Ok 81 17 (ax_get 7 6 12) := ok_get (C := RX7) (T := TX7) (N := 19) rfl in_X7 (by decide) wd_443 rfl dX7_ended_17 rfl
theorem o_81_12 : ax_Ok 81 20 (ax_iload 2 13) := ok_iload_n rfl dX7_ended_20 rfl
theorem o_81_13 : ax_Ok 81 21 (ax_ald 0 14) := ok_iald dX7_ended_21 rfl
theorem o_81_14 : ax_Ok 81 22 (ax_istore 2 15) := ok_istore_n rfl (by decide) dX7_ended_22 rfl
theorem o_81_15 : ax_Ok 81 23 (ax_goto 2) := ok_goto dX7_ended_23 (by decide)
theorem o_81_16 : ax_Ok 81 26 (ax_iload 2 17) := ok_iload_n rfl dX7_ended_26 rfl
theorem o_81_17 : ax_Ok 81 27 (ax_ret 0) := ok_ret0 rfl dX7_ended_27
theorem o_82_0 : ax_Ok 82 0 (ax_iload 0 1) := ok_iload_n rfl dX7_afterStart_0 rfl
theorem o_82_1 : ax_Ok 82 1 (ax_const 101 2) := ok_bipush (by decide) dX7_afterStart_1 rfl
theorem o_82_2 : ax_Ok 82 3 (ax_icmp (fun x y => decide (x = y)) 6 3) := ok_icmp_eq dX7_afterStart_3 (by decide) rfl
theorem o_82_3 : ax_Ok 82 6 (ax_iload 0 4) := ok_iload_n rfl dX7_afterStart_6 rfl
theorem o_82_4 : ax_Ok 82 7 (ax_callS 77 1 5) := ok_callS wd_510 wd_511 wd_8 mo_77 dX7_afterStart_7 rfl
theorem o_82_5 : ax_Ok 82 10 (ax_if (fun x => decide (x = 0)) 8 6) := ok_if_eq dX7_afterStart_10 (by decide) rfl
theorem o_82_6 : ax_Ok 82 13 (ax_const 6 7) := ok_bipush (by decide) dX7_afterStart_13 rfl
theorem o_82_7 : ax_Ok 82 15 (ax_goto 19) := ok_goto dX7_afterStart_15 (by decide)
theorem o_82_8 : ax_Ok 82 18 (ax_iload 0 9) := ok_iload_n rfl dX7_afterStart_18 rfl
theorem o_82_9 : ax_Ok 82 19 (ax_const 109 10) := ok_bipush (by decide) dX7_afterStart_19 rfl
theorem o_82_10 : ax_Ok 82 21 (ax_icmp (fun x y => decide (¬ x = y)) 13 11) := ok_icmp_ne dX7_afterStart_21 (by decide) rfl
theorem o_82_11 : ax_Ok 82 24 (ax_const 1 12) := ok_iconst (by decide) dX7_afterStart_24 rfl
theorem o_82_12 : ax_Ok 82 25 (ax_goto 19) := ok_goto dX7_afterStart_25 (by decide)
theorem o_82_13 : ax_Ok 82 28 (ax_iload 0 14) := ok_iload_n rfl dX7_afterStart_28 rfl
theorem o_82_14 : ax_Ok 82 29 (ax_callS 78 1 15) := ok_callS wd_513 wd_514 wd_8 mo_78 dX7_afterStart_29 rfl
theorem o_82_15 : ax_Ok 82 32 (ax_if (fun x => decide (x = 0)) 18 16) := ok_if_eq dX7_afterStart_32 (by decide) rfl
theorem o_82_16 : ax_Ok 82 35 (ax_const 3 17) := ok_iconst (by decide) dX7_afterStart_35 rfl
theorem o_82_17 : ax_Ok 82 36 (ax_goto 19) := ok_goto dX7_afterStart_36 (by decide)
theorem o_82_18 : ax_Ok 82 39 (ax_const (-1) 19) := ok_iconst (by decide) dX7_afterStart_39 rfl
theorem o_82_19 : ax_Ok 82 40 (ax_ret 0) := ok_ret0 rfl dX7_afterStart_40
theorem o_83_0 : ax_Ok 83 0 (ax_aload 0 1) := ok_aload_n rfl dX7_read_0 rfl
theorem o_83_1 : ax_Ok 83 1 (ax_const 0 2) := ok_iconst (by decide) dX7_read_1 rfl
theorem o_83_2 : ax_Ok 83 2 (ax_put 7 2 0 3) := ok_put (C := RX7) (T := TX7) (N := 19) rfl in_X7 tyX7 tyX7_ok nmX7 (by decide) wd_439 rfl rfl rfl dX7_read_2 rfl
theorem o_83_3 : ax_Ok 83 5 (ax_const 0 4) := ok_iconst (by decide) dX7_read_5 rfl
theorem o_83_4 : ax_Ok 83 6 (ax_istore 1 5) := ok_istore_n rfl (by decide) dX7_read_6 rfl
theorem o_83_5 : ax_Ok 83 7 (ax_const (-1) 6) := ok_iconst (by decide) dX7_read_7 rfl
theorem o_83_6 : ax_Ok 83 8 (ax_istore 2 7) := ok_istore_n rfl (by decide) dX7_read_8 rfl
theorem o_83_7 : ax_Ok 83 9 (ax_const 0 8) := ok_iconst (by decide) dX7_read_9 rfl
theorem o_83_8 : ax_Ok 83 10 (ax_istore 3 9) := ok_istore_n rfl (by decide) dX7_read_10 rfl
theorem o_83_9 : ax_Ok 83 11 (ax_const 0 10) := ok_iconst (by decide) dX7_read_11 rfl
theorem o_83_10 : ax_Ok 83 12 (ax_istore 4 11) := ok_istore (by decide) dX7_read_12 rfl
theorem o_83_11 : ax_Ok 83 14 (ax_const 0 12) := ok_iconst (by decide) dX7_read_14 rfl
theorem o_83_12 : ax_Ok 83 15 (ax_istore 5 13) := ok_istore (by decide) dX7_read_15 rfl
theorem o_83_13 : ax_Ok 83 17 (ax_const 0 14) := ok_iconst (by decide) dX7_read_17 rfl
theorem o_83_14 : ax_Ok 83 18 (ax_istore 6 15) := ok_istore (by decide) dX7_read_18 rfl
theorem o_83_15 : ax_Ok 83 20 (ax_iload 6 16) := ok_iload dX7_read_20 rfl
theorem o_83_16 : ax_Ok 83 22 (ax_aload 0 17) := ok_aload_n rfl dX7_read_22 rfl
theorem o_83_17 : ax_Ok 83 23 (ax_get 7 0 18) := ok_get (C := RX7) (T := TX7) (N := 19) rfl in_X7 (by decide) wd_437 rfl dX7_read_23 rfl
theorem o_83_18 : ax_Ok 83 26 (ax_icmp (fun x y => decide (y ≤ x)) 163 19) := ok_icmp_ge dX7_read_26 (by decide) rfl
theorem o_83_19 : ax_Ok 83 29 (ax_aload 0 20) := ok_aload_n rfl dX7_read_29 rfl
theorem o_83_20 : ax_Ok 83 30 (ax_get 7 1 21) := ok_get (C := RX7) (T := TX7) (N := 19) rfl in_X7 (by decide) wd_438 rfl dX7_read_30 rfl
theorem o_83_21 : ax_Ok 83 33 (ax_iload 6 22) := ok_iload dX7_read_33 rfl
theorem o_83_22 : ax_Ok 83 35 (ax_ald 1 23) := ok_cald dX7_read_35 rfl
theorem o_83_23 : ax_Ok 83 36 (ax_istore 7 24) := ok_istore (by decide) dX7_read_36 rfl
theorem o_83_24 : ax_Ok 83 38 (ax_const (-1) 25) := ok_iconst (by decide) dX7_read_38 rfl
theorem o_83_25 : ax_Ok 83 39 (ax_istore 8 26) := ok_istore (by decide) dX7_read_39 rfl
theorem o_83_26 : ax_Ok 83 41 (ax_iload 1 27) := ok_iload_n rfl dX7_read_41 rfl
theorem o_83_27 : ax_Ok 83 42 (ax_if (fun x => decide (¬ x = 0)) 61 28) := ok_if_ne dX7_read_42 (by decide) rfl
theorem o_83_28 : ax_Ok 83 45 (ax_iload 7 29) := ok_iload dX7_read_45 rfl
theorem o_83_29 : ax_Ok 83 47 (ax_callS 82 1 30) := ok_callS wd_507 wd_508 wd_8 mo_82 dX7_read_47 rfl
theorem o_83_30 : ax_Ok 83 50 (ax_istore 8 31) := ok_istore (by decide) dX7_read_50 rfl
theorem o_83_31 : ax_Ok 83 52 (ax_iload 7 32) := ok_iload dX7_read_52 rfl
theorem o_83_32 : ax_Ok 83 54 (ax_const 109 33) := ok_bipush (by decide) dX7_read_54 rfl
theorem o_83_33 : ax_Ok 83 56 (ax_icmp (fun x y => decide (¬ x = y)) 36 34) := ok_icmp_ne dX7_read_56 (by decide) rfl
theorem o_83_34 : ax_Ok 83 59 (ax_const 1 35) := ok_iconst (by decide) dX7_read_59 rfl
theorem o_83_35 : ax_Ok 83 60 (ax_goto 37) := ok_goto dX7_read_60 (by decide)
theorem o_83_36 : ax_Ok 83 63 (ax_const 0 37) := ok_iconst (by decide) dX7_read_63 rfl
theorem o_83_37 : ax_Ok 83 64 (ax_istore 5 38) := ok_istore (by decide) dX7_read_64 rfl
theorem o_83_38 : ax_Ok 83 66 (ax_iload 7 39) := ok_iload dX7_read_66 rfl
theorem o_83_39 : ax_Ok 83 68 (ax_istore 3 40) := ok_istore_n rfl (by decide) dX7_read_68 rfl
theorem o_83_40 : ax_Ok 83 69 (ax_iload 8 41) := ok_iload dX7_read_69 rfl
theorem o_83_41 : ax_Ok 83 71 (ax_const 6 42) := ok_bipush (by decide) dX7_read_71 rfl
theorem o_83_42 : ax_Ok 83 73 (ax_icmp (fun x y => decide (¬ x = y)) 148 43) := ok_icmp_ne dX7_read_73 (by decide) rfl
theorem o_83_43 : ax_Ok 83 76 (ax_aload 0 44) := ok_aload_n rfl dX7_read_76 rfl
theorem o_83_44 : ax_Ok 83 77 (ax_iload 7 45) := ok_iload dX7_read_77 rfl
theorem o_83_45 : ax_Ok 83 79 (ax_const 101 46) := ok_bipush (by decide) dX7_read_79 rfl
theorem o_83_46 : ax_Ok 83 81 (ax_icmp (fun x y => decide (¬ x = y)) 49 47) := ok_icmp_ne dX7_read_81 (by decide) rfl
theorem o_83_47 : ax_Ok 83 84 (ax_const 0 48) := ok_iconst (by decide) dX7_read_84 rfl
theorem o_83_48 : ax_Ok 83 85 (ax_goto 50) := ok_goto dX7_read_85 (by decide)
theorem o_83_49 : ax_Ok 83 88 (ax_const 1 50) := ok_iconst (by decide) dX7_read_88 rfl
theorem o_83_50 : ax_Ok 83 89 (ax_iload 7 51) := ok_iload dX7_read_89 rfl
theorem o_83_51 : ax_Ok 83 91 (ax_const 0 52) := ok_iconst (by decide) dX7_read_91 rfl
theorem o_83_52 : ax_Ok 83 92 (ax_iload 2 53) := ok_iload_n rfl dX7_read_92 rfl
theorem o_83_53 : ax_Ok 83 93 (ax_iload 4 54) := ok_iload dX7_read_93 rfl
theorem o_83_54 : ax_Ok 83 95 (ax_callV 7 80 5 55) := ok_callV (C := RX7) rfl rfl wd_516 wd_518 wp_27 wd_8 mo_80 (by decide) dX7_read_95 rfl
theorem o_83_55 : ax_Ok 83 98 (ax_pop 56) := ok_pop dX7_read_98 rfl
theorem o_83_56 : ax_Ok 83 99 (ax_aload 0 57) := ok_aload_n rfl dX7_read_99 rfl
theorem o_83_57 : ax_Ok 83 100 (ax_iload 2 58) := ok_iload_n rfl dX7_read_100 rfl
theorem o_83_58 : ax_Ok 83 101 (ax_callV 7 81 1 59) := ok_callV (C := RX7) rfl rfl wd_520 wd_522 wp_28 wd_8 mo_81 (by decide) dX7_read_101 rfl
theorem o_83_59 : ax_Ok 83 104 (ax_istore 2 60) := ok_istore_n rfl (by decide) dX7_read_104 rfl
theorem o_83_60 : ax_Ok 83 105 (ax_goto 148) := ok_goto dX7_read_105 (by decide)
theorem o_83_61 : ax_Ok 83 108 (ax_iload 1 62) := ok_iload_n rfl dX7_read_108 rfl
theorem o_83_62 : ax_Ok 83 109 (ax_const 1 63) := ok_iconst (by decide) dX7_read_109 rfl
theorem o_83_63 : ax_Ok 83 110 (ax_icmp (fun x y => decide (¬ x = y)) 78 64) := ok_icmp_ne dX7_read_110 (by decide) rfl
theorem o_83_64 : ax_Ok 83 113 (ax_iload 7 65) := ok_iload dX7_read_113 rfl
theorem o_83_65 : ax_Ok 83 115 (ax_callS 77 1 66) := ok_callS wd_510 wd_511 wd_8 mo_77 dX7_read_115 rfl
theorem o_83_66 : ax_Ok 83 118 (ax_if (fun x => decide (x = 0)) 78 67) := ok_if_eq dX7_read_118 (by decide) rfl
theorem o_83_67 : ax_Ok 83 121 (ax_aload 0 68) := ok_aload_n rfl dX7_read_121 rfl
theorem o_83_68 : ax_Ok 83 122 (ax_const 2 69) := ok_iconst (by decide) dX7_read_122 rfl
theorem o_83_69 : ax_Ok 83 123 (ax_iload 7 70) := ok_iload dX7_read_123 rfl
theorem o_83_70 : ax_Ok 83 125 (ax_const 0 71) := ok_iconst (by decide) dX7_read_125 rfl
theorem o_83_71 : ax_Ok 83 126 (ax_iload 2 72) := ok_iload_n rfl dX7_read_126 rfl
theorem o_83_72 : ax_Ok 83 127 (ax_iload 4 73) := ok_iload dX7_read_127 rfl
theorem o_83_73 : ax_Ok 83 129 (ax_callV 7 80 5 74) := ok_callV (C := RX7) rfl rfl wd_516 wd_518 wp_27 wd_8 mo_80 (by decide) dX7_read_129 rfl
theorem o_83_74 : ax_Ok 83 132 (ax_istore 2 75) := ok_istore_n rfl (by decide) dX7_read_132 rfl
theorem o_83_75 : ax_Ok 83 133 (ax_const 2 76) := ok_iconst (by decide) dX7_read_133 rfl
theorem o_83_76 : ax_Ok 83 134 (ax_istore 8 77) := ok_istore (by decide) dX7_read_134 rfl
theorem o_83_77 : ax_Ok 83 136 (ax_goto 148) := ok_goto dX7_read_136 (by decide)
theorem o_83_78 : ax_Ok 83 139 (ax_iload 1 79) := ok_iload_n rfl dX7_read_139 rfl
theorem o_83_79 : ax_Ok 83 140 (ax_const 3 80) := ok_iconst (by decide) dX7_read_140 rfl
theorem o_83_80 : ax_Ok 83 141 (ax_icmp (fun x y => decide (¬ x = y)) 95 81) := ok_icmp_ne dX7_read_141 (by decide) rfl
theorem o_83_81 : ax_Ok 83 144 (ax_iload 7 82) := ok_iload dX7_read_144 rfl
theorem o_83_82 : ax_Ok 83 146 (ax_callS 78 1 83) := ok_callS wd_513 wd_514 wd_8 mo_78 dX7_read_146 rfl
theorem o_83_83 : ax_Ok 83 149 (ax_if (fun x => decide (x = 0)) 95 84) := ok_if_eq dX7_read_149 (by decide) rfl
theorem o_83_84 : ax_Ok 83 152 (ax_aload 0 85) := ok_aload_n rfl dX7_read_152 rfl
theorem o_83_85 : ax_Ok 83 153 (ax_const 3 86) := ok_iconst (by decide) dX7_read_153 rfl
theorem o_83_86 : ax_Ok 83 154 (ax_iload 3 87) := ok_iload_n rfl dX7_read_154 rfl
theorem o_83_87 : ax_Ok 83 155 (ax_iload 7 88) := ok_iload dX7_read_155 rfl
theorem o_83_88 : ax_Ok 83 157 (ax_iload 2 89) := ok_iload_n rfl dX7_read_157 rfl
theorem o_83_89 : ax_Ok 83 158 (ax_iload 4 90) := ok_iload dX7_read_158 rfl
theorem o_83_90 : ax_Ok 83 160 (ax_callV 7 80 5 91) := ok_callV (C := RX7) rfl rfl wd_516 wd_518 wp_27 wd_8 mo_80 (by decide) dX7_read_160 rfl
theorem o_83_91 : ax_Ok 83 163 (ax_istore 2 92) := ok_istore_n rfl (by decide) dX7_read_163 rfl
theorem o_83_92 : ax_Ok 83 164 (ax_const 4 93) := ok_iconst (by decide) dX7_read_164 rfl
theorem o_83_93 : ax_Ok 83 165 (ax_istore 8 94) := ok_istore (by decide) dX7_read_165 rfl
theorem o_83_94 : ax_Ok 83 167 (ax_goto 148) := ok_goto dX7_read_167 (by decide)
theorem o_83_95 : ax_Ok 83 170 (ax_iload 1 96) := ok_iload_n rfl dX7_read_170 rfl
theorem o_83_96 : ax_Ok 83 171 (ax_const 2 97) := ok_iconst (by decide) dX7_read_171 rfl
theorem o_83_97 : ax_Ok 83 172 (ax_icmp (fun x y => decide (¬ x = y)) 104 98) := ok_icmp_ne dX7_read_172 (by decide) rfl
theorem o_83_98 : ax_Ok 83 175 (ax_iload 7 99) := ok_iload dX7_read_175 rfl
theorem o_83_99 : ax_Ok 83 177 (ax_const 46 100) := ok_bipush (by decide) dX7_read_177 rfl
theorem o_83_100 : ax_Ok 83 179 (ax_icmp (fun x y => decide (¬ x = y)) 104 101) := ok_icmp_ne dX7_read_179 (by decide) rfl
theorem o_83_101 : ax_Ok 83 182 (ax_const 0 102) := ok_iconst (by decide) dX7_read_182 rfl
theorem o_83_102 : ax_Ok 83 183 (ax_istore 8 103) := ok_istore (by decide) dX7_read_183 rfl
theorem o_83_103 : ax_Ok 83 185 (ax_goto 148) := ok_goto dX7_read_185 (by decide)
theorem o_83_104 : ax_Ok 83 188 (ax_iload 1 105) := ok_iload_n rfl dX7_read_188 rfl
theorem o_83_105 : ax_Ok 83 189 (ax_const 4 106) := ok_iconst (by decide) dX7_read_189 rfl
theorem o_83_106 : ax_Ok 83 190 (ax_icmp (fun x y => decide (¬ x = y)) 113 107) := ok_icmp_ne dX7_read_190 (by decide) rfl
theorem o_83_107 : ax_Ok 83 193 (ax_iload 7 108) := ok_iload dX7_read_193 rfl
theorem o_83_108 : ax_Ok 83 195 (ax_const 123 109) := ok_bipush (by decide) dX7_read_195 rfl
theorem o_83_109 : ax_Ok 83 197 (ax_icmp (fun x y => decide (¬ x = y)) 113 110) := ok_icmp_ne dX7_read_197 (by decide) rfl
theorem o_83_110 : ax_Ok 83 200 (ax_const 5 111) := ok_iconst (by decide) dX7_read_200 rfl
theorem o_83_111 : ax_Ok 83 201 (ax_istore 8 112) := ok_istore (by decide) dX7_read_201 rfl
theorem o_83_112 : ax_Ok 83 203 (ax_goto 148) := ok_goto dX7_read_203 (by decide)
theorem o_83_113 : ax_Ok 83 206 (ax_iload 1 114) := ok_iload_n rfl dX7_read_206 rfl
theorem o_83_114 : ax_Ok 83 207 (ax_const 5 115) := ok_iconst (by decide) dX7_read_207 rfl
theorem o_83_115 : ax_Ok 83 208 (ax_icmp (fun x y => decide (¬ x = y)) 124 116) := ok_icmp_ne dX7_read_208 (by decide) rfl
theorem o_83_116 : ax_Ok 83 211 (ax_iload 7 117) := ok_iload dX7_read_211 rfl
theorem o_83_117 : ax_Ok 83 213 (ax_callS 79 1 118) := ok_callS wd_524 wd_525 wd_8 mo_79 dX7_read_213 rfl
theorem o_83_118 : ax_Ok 83 216 (ax_if (fun x => decide (x = 0)) 124 119) := ok_if_eq dX7_read_216 (by decide) rfl
theorem o_83_119 : ax_Ok 83 219 (ax_iload 7 120) := ok_iload dX7_read_219 rfl
theorem o_83_120 : ax_Ok 83 221 (ax_istore 4 121) := ok_istore (by decide) dX7_read_221 rfl
theorem o_83_121 : ax_Ok 83 223 (ax_const 2 122) := ok_iconst (by decide) dX7_read_223 rfl
theorem o_83_122 : ax_Ok 83 224 (ax_istore 8 123) := ok_istore (by decide) dX7_read_224 rfl
theorem o_83_123 : ax_Ok 83 226 (ax_goto 148) := ok_goto dX7_read_226 (by decide)
theorem o_83_124 : ax_Ok 83 229 (ax_iload 1 125) := ok_iload_n rfl dX7_read_229 rfl
theorem o_83_125 : ax_Ok 83 230 (ax_const 6 126) := ok_bipush (by decide) dX7_read_230 rfl
theorem o_83_126 : ax_Ok 83 232 (ax_icmp (fun x y => decide (¬ x = y)) 133 127) := ok_icmp_ne dX7_read_232 (by decide) rfl
theorem o_83_127 : ax_Ok 83 235 (ax_iload 7 128) := ok_iload dX7_read_235 rfl
theorem o_83_128 : ax_Ok 83 237 (ax_const 44 129) := ok_bipush (by decide) dX7_read_237 rfl
theorem o_83_129 : ax_Ok 83 239 (ax_icmp (fun x y => decide (¬ x = y)) 133 130) := ok_icmp_ne dX7_read_239 (by decide) rfl
theorem o_83_130 : ax_Ok 83 242 (ax_const 5 131) := ok_iconst (by decide) dX7_read_242 rfl
theorem o_83_131 : ax_Ok 83 243 (ax_istore 8 132) := ok_istore (by decide) dX7_read_243 rfl
theorem o_83_132 : ax_Ok 83 245 (ax_goto 148) := ok_goto dX7_read_245 (by decide)
theorem o_83_133 : ax_Ok 83 248 (ax_iload 1 134) := ok_iload_n rfl dX7_read_248 rfl
theorem o_83_134 : ax_Ok 83 249 (ax_const 6 135) := ok_bipush (by decide) dX7_read_249 rfl
theorem o_83_135 : ax_Ok 83 251 (ax_icmp (fun x y => decide (¬ x = y)) 148 136) := ok_icmp_ne dX7_read_251 (by decide) rfl
theorem o_83_136 : ax_Ok 83 254 (ax_iload 7 137) := ok_iload dX7_read_254 rfl
theorem o_83_137 : ax_Ok 83 256 (ax_const 125 138) := ok_bipush (by decide) dX7_read_256 rfl
theorem o_83_138 : ax_Ok 83 258 (ax_icmp (fun x y => decide (¬ x = y)) 148 139) := ok_icmp_ne dX7_read_258 (by decide) rfl
theorem o_83_139 : ax_Ok 83 261 (ax_aload 0 140) := ok_aload_n rfl dX7_read_261 rfl
theorem o_83_140 : ax_Ok 83 262 (ax_aload 0 141) := ok_aload_n rfl dX7_read_262 rfl
theorem o_83_141 : ax_Ok 83 263 (ax_get 7 6 142) := ok_get (C := RX7) (T := TX7) (N := 19) rfl in_X7 (by decide) wd_443 rfl dX7_read_263 rfl
theorem o_83_142 : ax_Ok 83 266 (ax_iload 2 143) := ok_iload_n rfl dX7_read_266 rfl
theorem o_83_143 : ax_Ok 83 267 (ax_ald 0 144) := ok_iald dX7_read_267 rfl
theorem o_83_144 : ax_Ok 83 268 (ax_callV 7 81 1 145) := ok_callV (C := RX7) rfl rfl wd_520 wd_522 wp_28 wd_8 mo_81 (by decide) dX7_read_268 rfl
theorem o_83_145 : ax_Ok 83 271 (ax_istore 2 146) := ok_istore_n rfl (by decide) dX7_read_271 rfl
theorem o_83_146 : ax_Ok 83 272 (ax_const 6 147) := ok_bipush (by decide) dX7_read_272 rfl
theorem o_83_147 : ax_Ok 83 274 (ax_istore 8 148) := ok_istore (by decide) dX7_read_274 rfl
theorem o_83_148 : ax_Ok 83 276 (ax_iload 8 149) := ok_iload dX7_read_276 rfl
theorem o_83_149 : ax_Ok 83 278 (ax_if (fun x => decide (0 ≤ x)) 152 150) := ok_if_ge dX7_read_278 (by decide) rfl
theorem o_83_150 : ax_Ok 83 281 (ax_iload 6 151) := ok_iload dX7_read_281 rfl
theorem o_83_151 : ax_Ok 83 283 (ax_ret 0) := ok_ret0 rfl dX7_read_283
theorem o_83_152 : ax_Ok 83 284 (ax_iload 8 153) := ok_iload dX7_read_284 rfl
theorem o_83_153 : ax_Ok 83 286 (ax_const 6 154) := ok_bipush (by decide) dX7_read_286 rfl
theorem o_83_154 : ax_Ok 83 288 (ax_icmp (fun x y => decide (¬ x = y)) 159 155) := ok_icmp_ne dX7_read_288 (by decide) rfl
theorem o_83_155 : ax_Ok 83 291 (ax_iload 2 156) := ok_iload_n rfl dX7_read_291 rfl
theorem o_83_156 : ax_Ok 83 292 (ax_if (fun x => decide (0 ≤ x)) 159 157) := ok_if_ge dX7_read_292 (by decide) rfl
theorem o_83_157 : ax_Ok 83 295 (ax_const 7 158) := ok_bipush (by decide) dX7_read_295 rfl
theorem o_83_158 : ax_Ok 83 297 (ax_goto 160) := ok_goto dX7_read_297 (by decide)
theorem o_83_159 : ax_Ok 83 300 (ax_iload 8 160) := ok_iload dX7_read_300 rfl
theorem o_83_160 : ax_Ok 83 302 (ax_istore 1 161) := ok_istore_n rfl (by decide) dX7_read_302 rfl
theorem o_83_161 : ax_Ok 83 303 (ax_iinc 6 1 162) := ok_iinc (by decide) (by decide) dX7_read_303 rfl
theorem o_83_162 : ax_Ok 83 306 (ax_goto 15) := ok_goto dX7_read_306 (by decide)
theorem o_83_163 : ax_Ok 83 309 (ax_iload 1 164) := ok_iload_n rfl dX7_read_309 rfl
theorem o_83_164 : ax_Ok 83 310 (ax_const 7 165) := ok_bipush (by decide) dX7_read_310 rfl
theorem o_83_165 : ax_Ok 83 312 (ax_icmp (fun x y => decide (¬ x = y)) 168 166) := ok_icmp_ne dX7_read_312 (by decide) rfl
theorem o_83_166 : ax_Ok 83 315 (ax_const (-1) 167) := ok_iconst (by decide) dX7_read_315 rfl
theorem o_83_167 : ax_Ok 83 316 (ax_goto 170) := ok_goto dX7_read_316 (by decide)
theorem o_83_168 : ax_Ok 83 319 (ax_aload 0 169) := ok_aload_n rfl dX7_read_319 rfl
theorem o_83_169 : ax_Ok 83 320 (ax_get 7 0 170) := ok_get (C := RX7) (T := TX7) (N := 19) rfl in_X7 (by decide) wd_437 rfl dX7_read_320 rfl
theorem o_83_170 : ax_Ok 83 323 (ax_ret 0) := ok_ret0 rfl dX7_read_323
theorem o_84_0 : ax_Ok 84 0 (ax_const 0 1) := ok_iconst (by decide) dX7_bound_0 rfl
theorem o_84_1 : ax_Ok 84 1 (ax_istore 2 2) := ok_istore_n rfl (by decide) dX7_bound_1 rfl
theorem o_84_2 : ax_Ok 84 2 (ax_aload 0 3) := ok_aload_n rfl dX7_bound_2 rfl
theorem o_84_3 : ax_Ok 84 3 (ax_get 7 6 4) := ok_get (C := RX7) (T := TX7) (N := 19) rfl in_X7 (by decide) wd_443 rfl dX7_bound_3 rfl
theorem o_84_4 : ax_Ok 84 6 (ax_iload 1 5) := ok_iload_n rfl dX7_bound_6 rfl
theorem o_84_5 : ax_Ok 84 7 (ax_ald 0 6) := ok_iald dX7_bound_7 rfl
theorem o_84_6 : ax_Ok 84 8 (ax_istore 3 7) := ok_istore_n rfl (by decide) dX7_bound_8 rfl
theorem o_84_7 : ax_Ok 84 9 (ax_iload 3 8) := ok_iload_n rfl dX7_bound_9 rfl
theorem o_84_8 : ax_Ok 84 10 (ax_if (fun x => decide (x < 0)) 44 9) := ok_if_lt dX7_bound_10 (by decide) rfl
theorem o_84_9 : ax_Ok 84 13 (ax_aload 0 10) := ok_aload_n rfl dX7_bound_13 rfl
theorem o_84_10 : ax_Ok 84 14 (ax_get 7 3 11) := ok_get (C := RX7) (T := TX7) (N := 19) rfl in_X7 (by decide) wd_440 rfl dX7_bound_14 rfl
theorem o_84_11 : ax_Ok 84 17 (ax_iload 3 12) := ok_iload_n rfl dX7_bound_17 rfl
theorem o_84_12 : ax_Ok 84 18 (ax_ald 0 13) := ok_iald dX7_bound_18 rfl
theorem o_84_13 : ax_Ok 84 19 (ax_const 2 14) := ok_iconst (by decide) dX7_bound_19 rfl
theorem o_84_14 : ax_Ok 84 20 (ax_icmp (fun x y => decide (¬ x = y)) 26 15) := ok_icmp_ne dX7_bound_20 (by decide) rfl
theorem o_84_15 : ax_Ok 84 23 (ax_aload 0 16) := ok_aload_n rfl dX7_bound_23 rfl
theorem o_84_16 : ax_Ok 84 24 (ax_get 7 4 17) := ok_get (C := RX7) (T := TX7) (N := 19) rfl in_X7 (by decide) wd_441 rfl dX7_bound_24 rfl
theorem o_84_17 : ax_Ok 84 27 (ax_iload 3 18) := ok_iload_n rfl dX7_bound_27 rfl
theorem o_84_18 : ax_Ok 84 28 (ax_ald 0 19) := ok_iald dX7_bound_28 rfl
theorem o_84_19 : ax_Ok 84 29 (ax_aload 0 20) := ok_aload_n rfl dX7_bound_29 rfl
theorem o_84_20 : ax_Ok 84 30 (ax_get 7 4 21) := ok_get (C := RX7) (T := TX7) (N := 19) rfl in_X7 (by decide) wd_441 rfl dX7_bound_30 rfl
theorem o_84_21 : ax_Ok 84 33 (ax_iload 1 22) := ok_iload_n rfl dX7_bound_33 rfl
theorem o_84_22 : ax_Ok 84 34 (ax_ald 0 23) := ok_iald dX7_bound_34 rfl
theorem o_84_23 : ax_Ok 84 35 (ax_icmp (fun x y => decide (¬ x = y)) 26 24) := ok_icmp_ne dX7_bound_35 (by decide) rfl
theorem o_84_24 : ax_Ok 84 38 (ax_iload 2 25) := ok_iload_n rfl dX7_bound_38 rfl
theorem o_84_25 : ax_Ok 84 39 (ax_ret 1) := ok_ret1 rfl dX7_bound_39
theorem o_84_26 : ax_Ok 84 40 (ax_iload 2 27) := ok_iload_n rfl dX7_bound_40 rfl
theorem o_84_27 : ax_Ok 84 41 (ax_if (fun x => decide (¬ x = 0)) 34 28) := ok_if_ne dX7_bound_41 (by decide) rfl
theorem o_84_28 : ax_Ok 84 44 (ax_aload 0 29) := ok_aload_n rfl dX7_bound_44 rfl
theorem o_84_29 : ax_Ok 84 45 (ax_get 7 3 30) := ok_get (C := RX7) (T := TX7) (N := 19) rfl in_X7 (by decide) wd_440 rfl dX7_bound_45 rfl
theorem o_84_30 : ax_Ok 84 48 (ax_iload 3 31) := ok_iload_n rfl dX7_bound_48 rfl
theorem o_84_31 : ax_Ok 84 49 (ax_ald 0 32) := ok_iald dX7_bound_49 rfl
theorem o_84_32 : ax_Ok 84 50 (ax_const 3 33) := ok_iconst (by decide) dX7_bound_50 rfl
theorem o_84_33 : ax_Ok 84 51 (ax_icmp (fun x y => decide (¬ x = y)) 36 34) := ok_icmp_ne dX7_bound_51 (by decide) rfl
theorem o_84_34 : ax_Ok 84 54 (ax_const 1 35) := ok_iconst (by decide) dX7_bound_54 rfl
theorem o_84_35 : ax_Ok 84 55 (ax_goto 37) := ok_goto dX7_bound_55 (by decide)
theorem o_84_36 : ax_Ok 84 58 (ax_const 0 37) := ok_iconst (by decide) dX7_bound_58 rfl
theorem o_84_37 : ax_Ok 84 59 (ax_istore 2 38) := ok_istore_n rfl (by decide) dX7_bound_59 rfl
theorem o_84_38 : ax_Ok 84 60 (ax_aload 0 39) := ok_aload_n rfl dX7_bound_60 rfl
theorem o_84_39 : ax_Ok 84 61 (ax_get 7 6 40) := ok_get (C := RX7) (T := TX7) (N := 19) rfl in_X7 (by decide) wd_443 rfl dX7_bound_61 rfl
theorem o_84_40 : ax_Ok 84 64 (ax_iload 3 41) := ok_iload_n rfl dX7_bound_64 rfl
theorem o_84_41 : ax_Ok 84 65 (ax_ald 0 42) := ok_iald dX7_bound_65 rfl
theorem o_84_42 : ax_Ok 84 66 (ax_istore 3 43) := ok_istore_n rfl (by decide) dX7_bound_66 rfl
theorem o_84_43 : ax_Ok 84 67 (ax_goto 7) := ok_goto dX7_bound_67 (by decide)
theorem o_84_44 : ax_Ok 84 70 (ax_const 0 45) := ok_iconst (by decide) dX7_bound_70 rfl
theorem o_84_45 : ax_Ok 84 71 (ax_ret 1) := ok_ret1 rfl dX7_bound_71
theorem o_85_0 : ax_Ok 85 0 (ax_aload 0 1) := ok_aload_n rfl dX7_single_0 rfl
theorem o_85_1 : ax_Ok 85 1 (ax_get 7 6 2) := ok_get (C := RX7) (T := TX7) (N := 19) rfl in_X7 (by decide) wd_443 rfl dX7_single_1 rfl
theorem o_85_2 : ax_Ok 85 4 (ax_iload 1 3) := ok_iload_n rfl dX7_single_4 rfl
theorem o_85_3 : ax_Ok 85 5 (ax_ald 0 4) := ok_iald dX7_single_5 rfl
theorem o_85_4 : ax_Ok 85 6 (ax_istore 2 5) := ok_istore_n rfl (by decide) dX7_single_6 rfl
theorem o_85_5 : ax_Ok 85 7 (ax_iload 2 6) := ok_iload_n rfl dX7_single_7 rfl
theorem o_85_6 : ax_Ok 85 8 (ax_if (fun x => decide (x < 0)) 30 7) := ok_if_lt dX7_single_8 (by decide) rfl
theorem o_85_7 : ax_Ok 85 11 (ax_aload 0 8) := ok_aload_n rfl dX7_single_11 rfl
theorem o_85_8 : ax_Ok 85 12 (ax_get 7 3 9) := ok_get (C := RX7) (T := TX7) (N := 19) rfl in_X7 (by decide) wd_440 rfl dX7_single_12 rfl
theorem o_85_9 : ax_Ok 85 15 (ax_iload 2 10) := ok_iload_n rfl dX7_single_15 rfl
theorem o_85_10 : ax_Ok 85 16 (ax_ald 0 11) := ok_iald dX7_single_16 rfl
theorem o_85_11 : ax_Ok 85 17 (ax_const 2 12) := ok_iconst (by decide) dX7_single_17 rfl
theorem o_85_12 : ax_Ok 85 18 (ax_icmp (fun x y => decide (¬ x = y)) 24 13) := ok_icmp_ne dX7_single_18 (by decide) rfl
theorem o_85_13 : ax_Ok 85 21 (ax_aload 0 14) := ok_aload_n rfl dX7_single_21 rfl
theorem o_85_14 : ax_Ok 85 22 (ax_get 7 4 15) := ok_get (C := RX7) (T := TX7) (N := 19) rfl in_X7 (by decide) wd_441 rfl dX7_single_22 rfl
theorem o_85_15 : ax_Ok 85 25 (ax_iload 2 16) := ok_iload_n rfl dX7_single_25 rfl
theorem o_85_16 : ax_Ok 85 26 (ax_ald 0 17) := ok_iald dX7_single_26 rfl
theorem o_85_17 : ax_Ok 85 27 (ax_aload 0 18) := ok_aload_n rfl dX7_single_27 rfl
theorem o_85_18 : ax_Ok 85 28 (ax_get 7 4 19) := ok_get (C := RX7) (T := TX7) (N := 19) rfl in_X7 (by decide) wd_441 rfl dX7_single_28 rfl
theorem o_85_19 : ax_Ok 85 31 (ax_iload 1 20) := ok_iload_n rfl dX7_single_31 rfl
theorem o_85_20 : ax_Ok 85 32 (ax_ald 0 21) := ok_iald dX7_single_32 rfl
theorem o_85_21 : ax_Ok 85 33 (ax_icmp (fun x y => decide (¬ x = y)) 24 22) := ok_icmp_ne dX7_single_33 (by decide) rfl
theorem o_85_22 : ax_Ok 85 36 (ax_const 0 23) := ok_iconst (by decide) dX7_single_36 rfl
theorem o_85_23 : ax_Ok 85 37 (ax_ret 1) := ok_ret1 rfl dX7_single_37
theorem o_85_24 : ax_Ok 85 38 (ax_aload 0 25) := ok_aload_n rfl dX7_single_38 rfl
theorem o_85_25 : ax_Ok 85 39 (ax_get 7 6 26) := ok_get (C := RX7) (T := TX7) (N := 19) rfl in_X7 (by decide) wd_443 rfl dX7_single_39 rfl
theorem o_85_26 : ax_Ok 85 42 (ax_iload 2 27) := ok_iload_n rfl dX7_single_42 rfl
theorem o_85_27 : ax_Ok 85 43 (ax_ald 0 28) := ok_iald dX7_single_43 rfl
theorem o_85_28 : ax_Ok 85 44 (ax_istore 2 29) := ok_istore_n rfl (by decide) dX7_single_44 rfl
theorem o_85_29 : ax_Ok 85 45 (ax_goto 5) := ok_goto dX7_single_45 (by decide)
theorem o_85_30 : ax_Ok 85 48 (ax_const 1 31) := ok_iconst (by decide) dX7_single_48 rfl
theorem o_85_31 : ax_Ok 85 49 (ax_ret 1) := ok_ret1 rfl dX7_single_49
theorem o_86_0 : ax_Ok 86 0 (ax_const 0 1) := ok_iconst (by decide) dX7_apart_0 rfl
theorem o_86_1 : ax_Ok 86 1 (ax_istore 2 2) := ok_istore_n rfl (by decide) dX7_apart_1 rfl
theorem o_86_2 : ax_Ok 86 2 (ax_iload 2 3) := ok_iload_n rfl dX7_apart_2 rfl
theorem o_86_3 : ax_Ok 86 3 (ax_aload 0 4) := ok_aload_n rfl dX7_apart_3 rfl
theorem o_86_4 : ax_Ok 86 4 (ax_get 7 2 5) := ok_get (C := RX7) (T := TX7) (N := 19) rfl in_X7 (by decide) wd_439 rfl dX7_apart_4 rfl
theorem o_86_5 : ax_Ok 86 7 (ax_icmp (fun x y => decide (y ≤ x)) 31 6) := ok_icmp_ge dX7_apart_7 (by decide) rfl
theorem o_86_6 : ax_Ok 86 10 (ax_iload 2 7) := ok_iload_n rfl dX7_apart_10 rfl
theorem o_86_7 : ax_Ok 86 11 (ax_iload 1 8) := ok_iload_n rfl dX7_apart_11 rfl
theorem o_86_8 : ax_Ok 86 12 (ax_icmp (fun x y => decide (x = y)) 29 9) := ok_icmp_eq dX7_apart_12 (by decide) rfl
theorem o_86_9 : ax_Ok 86 15 (ax_aload 0 10) := ok_aload_n rfl dX7_apart_15 rfl
theorem o_86_10 : ax_Ok 86 16 (ax_get 7 6 11) := ok_get (C := RX7) (T := TX7) (N := 19) rfl in_X7 (by decide) wd_443 rfl dX7_apart_16 rfl
theorem o_86_11 : ax_Ok 86 19 (ax_iload 2 12) := ok_iload_n rfl dX7_apart_19 rfl
theorem o_86_12 : ax_Ok 86 20 (ax_ald 0 13) := ok_iald dX7_apart_20 rfl
theorem o_86_13 : ax_Ok 86 21 (ax_aload 0 14) := ok_aload_n rfl dX7_apart_21 rfl
theorem o_86_14 : ax_Ok 86 22 (ax_get 7 6 15) := ok_get (C := RX7) (T := TX7) (N := 19) rfl in_X7 (by decide) wd_443 rfl dX7_apart_22 rfl
theorem o_86_15 : ax_Ok 86 25 (ax_iload 1 16) := ok_iload_n rfl dX7_apart_25 rfl
theorem o_86_16 : ax_Ok 86 26 (ax_ald 0 17) := ok_iald dX7_apart_26 rfl
theorem o_86_17 : ax_Ok 86 27 (ax_icmp (fun x y => decide (¬ x = y)) 29 18) := ok_icmp_ne dX7_apart_27 (by decide) rfl
theorem o_86_18 : ax_Ok 86 30 (ax_aload 0 19) := ok_aload_n rfl dX7_apart_30 rfl
theorem o_86_19 : ax_Ok 86 31 (ax_get 7 7 20) := ok_get (C := RX7) (T := TX7) (N := 19) rfl in_X7 (by decide) wd_444 rfl dX7_apart_31 rfl
theorem o_86_20 : ax_Ok 86 34 (ax_iload 2 21) := ok_iload_n rfl dX7_apart_34 rfl
theorem o_86_21 : ax_Ok 86 35 (ax_ald 0 22) := ok_iald dX7_apart_35 rfl
theorem o_86_22 : ax_Ok 86 36 (ax_aload 0 23) := ok_aload_n rfl dX7_apart_36 rfl
theorem o_86_23 : ax_Ok 86 37 (ax_get 7 7 24) := ok_get (C := RX7) (T := TX7) (N := 19) rfl in_X7 (by decide) wd_444 rfl dX7_apart_37 rfl
theorem o_86_24 : ax_Ok 86 40 (ax_iload 1 25) := ok_iload_n rfl dX7_apart_40 rfl
theorem o_86_25 : ax_Ok 86 41 (ax_ald 0 26) := ok_iald dX7_apart_41 rfl
theorem o_86_26 : ax_Ok 86 42 (ax_icmp (fun x y => decide (¬ x = y)) 29 27) := ok_icmp_ne dX7_apart_42 (by decide) rfl
theorem o_86_27 : ax_Ok 86 45 (ax_const 0 28) := ok_iconst (by decide) dX7_apart_45 rfl
theorem o_86_28 : ax_Ok 86 46 (ax_ret 1) := ok_ret1 rfl dX7_apart_46
theorem o_86_29 : ax_Ok 86 47 (ax_iinc 2 1 30) := ok_iinc (by decide) (by decide) dX7_apart_47 rfl
theorem o_86_30 : ax_Ok 86 50 (ax_goto 2) := ok_goto dX7_apart_50 (by decide)
theorem o_86_31 : ax_Ok 86 53 (ax_const 1 32) := ok_iconst (by decide) dX7_apart_53 rfl
theorem o_86_32 : ax_Ok 86 54 (ax_ret 1) := ok_ret1 rfl dX7_apart_54
theorem o_87_0 : ax_Ok 87 0 (ax_const 0 1) := ok_iconst (by decide) dX7_sound_0 rfl
theorem o_87_1 : ax_Ok 87 1 (ax_istore 1 2) := ok_istore_n rfl (by decide) dX7_sound_1 rfl
theorem o_87_2 : ax_Ok 87 2 (ax_iload 1 3) := ok_iload_n rfl dX7_sound_2 rfl
theorem o_87_3 : ax_Ok 87 3 (ax_aload 0 4) := ok_aload_n rfl dX7_sound_3 rfl
theorem o_87_4 : ax_Ok 87 4 (ax_get 7 2 5) := ok_get (C := RX7) (T := TX7) (N := 19) rfl in_X7 (by decide) wd_439 rfl dX7_sound_4 rfl
theorem o_87_5 : ax_Ok 87 7 (ax_icmp (fun x y => decide (y ≤ x)) 65 6) := ok_icmp_ge dX7_sound_7 (by decide) rfl
theorem o_87_6 : ax_Ok 87 10 (ax_aload 0 7) := ok_aload_n rfl dX7_sound_10 rfl
theorem o_87_7 : ax_Ok 87 11 (ax_get 7 3 8) := ok_get (C := RX7) (T := TX7) (N := 19) rfl in_X7 (by decide) wd_440 rfl dX7_sound_11 rfl
theorem o_87_8 : ax_Ok 87 14 (ax_iload 1 9) := ok_iload_n rfl dX7_sound_14 rfl
theorem o_87_9 : ax_Ok 87 15 (ax_ald 0 10) := ok_iald dX7_sound_15 rfl
theorem o_87_10 : ax_Ok 87 16 (ax_const 1 11) := ok_iconst (by decide) dX7_sound_16 rfl
theorem o_87_11 : ax_Ok 87 17 (ax_icmp (fun x y => decide (¬ x = y)) 16 12) := ok_icmp_ne dX7_sound_17 (by decide) rfl
theorem o_87_12 : ax_Ok 87 20 (ax_aload 0 13) := ok_aload_n rfl dX7_sound_20 rfl
theorem o_87_13 : ax_Ok 87 21 (ax_iload 1 14) := ok_iload_n rfl dX7_sound_21 rfl
theorem o_87_14 : ax_Ok 87 22 (ax_callV 7 84 1 15) := ok_callV (C := RX7) rfl rfl wd_531 wd_533 wp_30 wd_8 mo_84 (by decide) dX7_sound_22 rfl
theorem o_87_15 : ax_Ok 87 25 (ax_if (fun x => decide (x = 0)) 41 16) := ok_if_eq dX7_sound_25 (by decide) rfl
theorem o_87_16 : ax_Ok 87 28 (ax_aload 0 17) := ok_aload_n rfl dX7_sound_28 rfl
theorem o_87_17 : ax_Ok 87 29 (ax_get 7 3 18) := ok_get (C := RX7) (T := TX7) (N := 19) rfl in_X7 (by decide) wd_440 rfl dX7_sound_29 rfl
theorem o_87_18 : ax_Ok 87 32 (ax_iload 1 19) := ok_iload_n rfl dX7_sound_32 rfl
theorem o_87_19 : ax_Ok 87 33 (ax_ald 0 20) := ok_iald dX7_sound_33 rfl
theorem o_87_20 : ax_Ok 87 34 (ax_const 2 21) := ok_iconst (by decide) dX7_sound_34 rfl
theorem o_87_21 : ax_Ok 87 35 (ax_icmp (fun x y => decide (¬ x = y)) 26 22) := ok_icmp_ne dX7_sound_35 (by decide) rfl
theorem o_87_22 : ax_Ok 87 38 (ax_aload 0 23) := ok_aload_n rfl dX7_sound_38 rfl
theorem o_87_23 : ax_Ok 87 39 (ax_iload 1 24) := ok_iload_n rfl dX7_sound_39 rfl
theorem o_87_24 : ax_Ok 87 40 (ax_callV 7 85 1 25) := ok_callV (C := RX7) rfl rfl wd_535 wd_537 wp_31 wd_8 mo_85 (by decide) dX7_sound_40 rfl
theorem o_87_25 : ax_Ok 87 43 (ax_if (fun x => decide (x = 0)) 41 26) := ok_if_eq dX7_sound_43 (by decide) rfl
theorem o_87_26 : ax_Ok 87 46 (ax_aload 0 27) := ok_aload_n rfl dX7_sound_46 rfl
theorem o_87_27 : ax_Ok 87 47 (ax_get 7 3 28) := ok_get (C := RX7) (T := TX7) (N := 19) rfl in_X7 (by decide) wd_440 rfl dX7_sound_47 rfl
theorem o_87_28 : ax_Ok 87 50 (ax_iload 1 29) := ok_iload_n rfl dX7_sound_50 rfl
theorem o_87_29 : ax_Ok 87 51 (ax_ald 0 30) := ok_iald dX7_sound_51 rfl
theorem o_87_30 : ax_Ok 87 52 (ax_const 3 31) := ok_iconst (by decide) dX7_sound_52 rfl
theorem o_87_31 : ax_Ok 87 53 (ax_icmp (fun x y => decide (¬ x = y)) 43 32) := ok_icmp_ne dX7_sound_53 (by decide) rfl
theorem o_87_32 : ax_Ok 87 56 (ax_aload 0 33) := ok_aload_n rfl dX7_sound_56 rfl
theorem o_87_33 : ax_Ok 87 57 (ax_get 7 4 34) := ok_get (C := RX7) (T := TX7) (N := 19) rfl in_X7 (by decide) wd_441 rfl dX7_sound_57 rfl
theorem o_87_34 : ax_Ok 87 60 (ax_iload 1 35) := ok_iload_n rfl dX7_sound_60 rfl
theorem o_87_35 : ax_Ok 87 61 (ax_ald 0 36) := ok_iald dX7_sound_61 rfl
theorem o_87_36 : ax_Ok 87 62 (ax_aload 0 37) := ok_aload_n rfl dX7_sound_62 rfl
theorem o_87_37 : ax_Ok 87 63 (ax_get 7 5 38) := ok_get (C := RX7) (T := TX7) (N := 19) rfl in_X7 (by decide) wd_442 rfl dX7_sound_63 rfl
theorem o_87_38 : ax_Ok 87 66 (ax_iload 1 39) := ok_iload_n rfl dX7_sound_66 rfl
theorem o_87_39 : ax_Ok 87 67 (ax_ald 0 40) := ok_iald dX7_sound_67 rfl
theorem o_87_40 : ax_Ok 87 68 (ax_icmp (fun x y => decide (¬ x = y)) 43 41) := ok_icmp_ne dX7_sound_68 (by decide) rfl
theorem o_87_41 : ax_Ok 87 71 (ax_const 0 42) := ok_iconst (by decide) dX7_sound_71 rfl
theorem o_87_42 : ax_Ok 87 72 (ax_ret 1) := ok_ret1 rfl dX7_sound_72
theorem o_87_43 : ax_Ok 87 73 (ax_aload 0 44) := ok_aload_n rfl dX7_sound_73 rfl
theorem o_87_44 : ax_Ok 87 74 (ax_get 7 6 45) := ok_get (C := RX7) (T := TX7) (N := 19) rfl in_X7 (by decide) wd_443 rfl dX7_sound_74 rfl
theorem o_87_45 : ax_Ok 87 77 (ax_iload 1 46) := ok_iload_n rfl dX7_sound_77 rfl
theorem o_87_46 : ax_Ok 87 78 (ax_ald 0 47) := ok_iald dX7_sound_78 rfl
theorem o_87_47 : ax_Ok 87 79 (ax_if (fun x => decide (x < 0)) 63 48) := ok_if_lt dX7_sound_79 (by decide) rfl
theorem o_87_48 : ax_Ok 87 82 (ax_aload 0 49) := ok_aload_n rfl dX7_sound_82 rfl
theorem o_87_49 : ax_Ok 87 83 (ax_get 7 3 50) := ok_get (C := RX7) (T := TX7) (N := 19) rfl in_X7 (by decide) wd_440 rfl dX7_sound_83 rfl
theorem o_87_50 : ax_Ok 87 86 (ax_aload 0 51) := ok_aload_n rfl dX7_sound_86 rfl
theorem o_87_51 : ax_Ok 87 87 (ax_get 7 6 52) := ok_get (C := RX7) (T := TX7) (N := 19) rfl in_X7 (by decide) wd_443 rfl dX7_sound_87 rfl
theorem o_87_52 : ax_Ok 87 90 (ax_iload 1 53) := ok_iload_n rfl dX7_sound_90 rfl
theorem o_87_53 : ax_Ok 87 91 (ax_ald 0 54) := ok_iald dX7_sound_91 rfl
theorem o_87_54 : ax_Ok 87 92 (ax_ald 0 55) := ok_iald dX7_sound_92 rfl
theorem o_87_55 : ax_Ok 87 93 (ax_const 3 56) := ok_iconst (by decide) dX7_sound_93 rfl
theorem o_87_56 : ax_Ok 87 94 (ax_icmp (fun x y => decide (¬ x = y)) 63 57) := ok_icmp_ne dX7_sound_94 (by decide) rfl
theorem o_87_57 : ax_Ok 87 97 (ax_aload 0 58) := ok_aload_n rfl dX7_sound_97 rfl
theorem o_87_58 : ax_Ok 87 98 (ax_iload 1 59) := ok_iload_n rfl dX7_sound_98 rfl
theorem o_87_59 : ax_Ok 87 99 (ax_callV 7 86 1 60) := ok_callV (C := RX7) rfl rfl wd_539 wd_541 wp_32 wd_8 mo_86 (by decide) dX7_sound_99 rfl
theorem o_87_60 : ax_Ok 87 102 (ax_if (fun x => decide (¬ x = 0)) 63 61) := ok_if_ne dX7_sound_102 (by decide) rfl
theorem o_87_61 : ax_Ok 87 105 (ax_const 0 62) := ok_iconst (by decide) dX7_sound_105 rfl
theorem o_87_62 : ax_Ok 87 106 (ax_ret 1) := ok_ret1 rfl dX7_sound_106
theorem o_87_63 : ax_Ok 87 107 (ax_iinc 1 1 64) := ok_iinc (by decide) (by decide) dX7_sound_107 rfl
theorem o_87_64 : ax_Ok 87 110 (ax_goto 2) := ok_goto dX7_sound_110 (by decide)
theorem o_87_65 : ax_Ok 87 113 (ax_const 1 66) := ok_iconst (by decide) dX7_sound_113 rfl
theorem o_87_66 : ax_Ok 87 114 (ax_ret 1) := ok_ret1 rfl dX7_sound_114
theorem o_88_0 : ax_Ok 88 0 (ax_aload 0 1) := ok_aload_n rfl dX7_put_0 rfl
theorem o_88_1 : ax_Ok 88 1 (ax_get 7 8 2) := ok_get (C := RX7) (T := TX7) (N := 19) rfl in_X7 (by decide) wd_445 rfl dX7_put_1 rfl
theorem o_88_2 : ax_Ok 88 4 (ax_const 60 3) := ok_bipush (by decide) dX7_put_4 rfl
theorem o_88_3 : ax_Ok 88 6 (ax_iload 1 4) := ok_iload_n rfl dX7_put_6 rfl
theorem o_88_4 : ax_Ok 88 7 (ax_bin (fun x y => x * y) 5) := ok_imul dX7_put_7 rfl
theorem o_88_5 : ax_Ok 88 8 (ax_aload 0 6) := ok_aload_n rfl dX7_put_8 rfl
theorem o_88_6 : ax_Ok 88 9 (ax_get 7 9 7) := ok_get (C := RX7) (T := TX7) (N := 19) rfl in_X7 (by decide) wd_446 rfl dX7_put_9 rfl
theorem o_88_7 : ax_Ok 88 12 (ax_iload 1 8) := ok_iload_n rfl dX7_put_12 rfl
theorem o_88_8 : ax_Ok 88 13 (ax_ald 0 9) := ok_iald dX7_put_13 rfl
theorem o_88_9 : ax_Ok 88 14 (ax_bin (fun x y => x + y) 10) := ok_iadd dX7_put_14 rfl
theorem o_88_10 : ax_Ok 88 15 (ax_iload 2 11) := ok_iload_n rfl dX7_put_15 rfl
theorem o_88_11 : ax_Ok 88 16 (ax_un (fun x => (x.toUInt32 % 65536).toInt32) 12) := ok_i2c dX7_put_16 rfl
theorem o_88_12 : ax_Ok 88 17 (ax_ast 1 13) := ok_cast dX7_put_17 rfl
theorem o_88_13 : ax_Ok 88 18 (ax_aload 0 14) := ok_aload_n rfl dX7_put_18 rfl
theorem o_88_14 : ax_Ok 88 19 (ax_get 7 9 15) := ok_get (C := RX7) (T := TX7) (N := 19) rfl in_X7 (by decide) wd_446 rfl dX7_put_19 rfl
theorem o_88_15 : ax_Ok 88 22 (ax_iload 1 16) := ok_iload_n rfl dX7_put_22 rfl
theorem o_88_16 : ax_Ok 88 23 (ax_dup2 17) := ok_dup2 dX7_put_23 rfl
theorem o_88_17 : ax_Ok 88 24 (ax_ald 0 18) := ok_iald dX7_put_24 rfl
theorem o_88_18 : ax_Ok 88 25 (ax_const 1 19) := ok_iconst (by decide) dX7_put_25 rfl
theorem o_88_19 : ax_Ok 88 26 (ax_bin (fun x y => x + y) 20) := ok_iadd dX7_put_26 rfl
theorem o_88_20 : ax_Ok 88 27 (ax_ast 0 21) := ok_iast dX7_put_27 rfl
theorem o_88_21 : ax_Ok 88 28 (ax_retv) := ok_retv rfl dX7_put_28
theorem o_89_0 : ax_Ok 89 0 (ax_const 0 1) := ok_iconst (by decide) dX7_copy_0 rfl
theorem o_89_1 : ax_Ok 89 1 (ax_istore 3 2) := ok_istore_n rfl (by decide) dX7_copy_1 rfl
theorem o_89_2 : ax_Ok 89 2 (ax_iload 3 3) := ok_iload_n rfl dX7_copy_2 rfl
theorem o_89_3 : ax_Ok 89 3 (ax_aload 0 4) := ok_aload_n rfl dX7_copy_3 rfl
theorem o_89_4 : ax_Ok 89 4 (ax_get 7 9 5) := ok_get (C := RX7) (T := TX7) (N := 19) rfl in_X7 (by decide) wd_446 rfl dX7_copy_4 rfl
theorem o_89_5 : ax_Ok 89 7 (ax_iload 1 6) := ok_iload_n rfl dX7_copy_7 rfl
theorem o_89_6 : ax_Ok 89 8 (ax_ald 0 7) := ok_iald dX7_copy_8 rfl
theorem o_89_7 : ax_Ok 89 9 (ax_icmp (fun x y => decide (y ≤ x)) 21 8) := ok_icmp_ge dX7_copy_9 (by decide) rfl
theorem o_89_8 : ax_Ok 89 12 (ax_aload 0 9) := ok_aload_n rfl dX7_copy_12 rfl
theorem o_89_9 : ax_Ok 89 13 (ax_iload 2 10) := ok_iload_n rfl dX7_copy_13 rfl
theorem o_89_10 : ax_Ok 89 14 (ax_aload 0 11) := ok_aload_n rfl dX7_copy_14 rfl
theorem o_89_11 : ax_Ok 89 15 (ax_get 7 8 12) := ok_get (C := RX7) (T := TX7) (N := 19) rfl in_X7 (by decide) wd_445 rfl dX7_copy_15 rfl
theorem o_89_12 : ax_Ok 89 18 (ax_const 60 13) := ok_bipush (by decide) dX7_copy_18 rfl
theorem o_89_13 : ax_Ok 89 20 (ax_iload 1 14) := ok_iload_n rfl dX7_copy_20 rfl
theorem o_89_14 : ax_Ok 89 21 (ax_bin (fun x y => x * y) 15) := ok_imul dX7_copy_21 rfl
theorem o_89_15 : ax_Ok 89 22 (ax_iload 3 16) := ok_iload_n rfl dX7_copy_22 rfl
theorem o_89_16 : ax_Ok 89 23 (ax_bin (fun x y => x + y) 17) := ok_iadd dX7_copy_23 rfl
theorem o_89_17 : ax_Ok 89 24 (ax_ald 1 18) := ok_cald dX7_copy_24 rfl
theorem o_89_18 : ax_Ok 89 25 (ax_callV 7 88 2 19) := ok_callV (C := RX7) rfl rfl wd_551 wd_553 wp_35 wd_8 mo_88 (by decide) dX7_copy_25 rfl
theorem o_89_19 : ax_Ok 89 28 (ax_iinc 3 1 20) := ok_iinc (by decide) (by decide) dX7_copy_28 rfl
theorem o_89_20 : ax_Ok 89 31 (ax_goto 2) := ok_goto dX7_copy_31 (by decide)
theorem o_89_21 : ax_Ok 89 34 (ax_retv) := ok_retv rfl dX7_copy_34
theorem o_90_0 : ax_Ok 90 0 (ax_aload 0 1) := ok_aload_n rfl dX7_same_0 rfl
theorem o_90_1 : ax_Ok 90 1 (ax_get 7 9 2) := ok_get (C := RX7) (T := TX7) (N := 19) rfl in_X7 (by decide) wd_446 rfl dX7_same_1 rfl
theorem o_90_2 : ax_Ok 90 4 (ax_iload 1 3) := ok_iload_n rfl dX7_same_4 rfl
theorem o_90_3 : ax_Ok 90 5 (ax_ald 0 4) := ok_iald dX7_same_5 rfl
theorem o_90_4 : ax_Ok 90 6 (ax_aload 0 5) := ok_aload_n rfl dX7_same_6 rfl
theorem o_90_5 : ax_Ok 90 7 (ax_get 7 9 6) := ok_get (C := RX7) (T := TX7) (N := 19) rfl in_X7 (by decide) wd_446 rfl dX7_same_7 rfl
theorem o_90_6 : ax_Ok 90 10 (ax_iload 2 7) := ok_iload_n rfl dX7_same_10 rfl
theorem o_90_7 : ax_Ok 90 11 (ax_ald 0 8) := ok_iald dX7_same_11 rfl
theorem o_90_8 : ax_Ok 90 12 (ax_icmp (fun x y => decide (¬ x = y)) 11 9) := ok_icmp_ne dX7_same_12 (by decide) rfl
theorem o_90_9 : ax_Ok 90 15 (ax_const 1 10) := ok_iconst (by decide) dX7_same_15 rfl
theorem o_90_10 : ax_Ok 90 16 (ax_goto 12) := ok_goto dX7_same_16 (by decide)
theorem o_90_11 : ax_Ok 90 19 (ax_const 0 12) := ok_iconst (by decide) dX7_same_19 rfl
theorem o_90_12 : ax_Ok 90 20 (ax_istore 3 13) := ok_istore_n rfl (by decide) dX7_same_20 rfl
theorem o_90_13 : ax_Ok 90 21 (ax_const 0 14) := ok_iconst (by decide) dX7_same_21 rfl
theorem o_90_14 : ax_Ok 90 22 (ax_istore 4 15) := ok_istore (by decide) dX7_same_22 rfl
theorem o_90_15 : ax_Ok 90 24 (ax_iload 4 16) := ok_iload dX7_same_24 rfl
theorem o_90_16 : ax_Ok 90 26 (ax_aload 0 17) := ok_aload_n rfl dX7_same_26 rfl
theorem o_90_17 : ax_Ok 90 27 (ax_get 7 9 18) := ok_get (C := RX7) (T := TX7) (N := 19) rfl in_X7 (by decide) wd_446 rfl dX7_same_27 rfl
theorem o_90_18 : ax_Ok 90 30 (ax_iload 1 19) := ok_iload_n rfl dX7_same_30 rfl
theorem o_90_19 : ax_Ok 90 31 (ax_ald 0 20) := ok_iald dX7_same_31 rfl
theorem o_90_20 : ax_Ok 90 32 (ax_icmp (fun x y => decide (y ≤ x)) 46 21) := ok_icmp_ge dX7_same_32 (by decide) rfl
theorem o_90_21 : ax_Ok 90 35 (ax_iload 3 22) := ok_iload_n rfl dX7_same_35 rfl
theorem o_90_22 : ax_Ok 90 36 (ax_if (fun x => decide (x = 0)) 46 23) := ok_if_eq dX7_same_36 (by decide) rfl
theorem o_90_23 : ax_Ok 90 39 (ax_aload 0 24) := ok_aload_n rfl dX7_same_39 rfl
theorem o_90_24 : ax_Ok 90 40 (ax_get 7 8 25) := ok_get (C := RX7) (T := TX7) (N := 19) rfl in_X7 (by decide) wd_445 rfl dX7_same_40 rfl
theorem o_90_25 : ax_Ok 90 43 (ax_const 60 26) := ok_bipush (by decide) dX7_same_43 rfl
theorem o_90_26 : ax_Ok 90 45 (ax_iload 1 27) := ok_iload_n rfl dX7_same_45 rfl
theorem o_90_27 : ax_Ok 90 46 (ax_bin (fun x y => x * y) 28) := ok_imul dX7_same_46 rfl
theorem o_90_28 : ax_Ok 90 47 (ax_iload 4 29) := ok_iload dX7_same_47 rfl
theorem o_90_29 : ax_Ok 90 49 (ax_bin (fun x y => x + y) 30) := ok_iadd dX7_same_49 rfl
theorem o_90_30 : ax_Ok 90 50 (ax_ald 1 31) := ok_cald dX7_same_50 rfl
theorem o_90_31 : ax_Ok 90 51 (ax_aload 0 32) := ok_aload_n rfl dX7_same_51 rfl
theorem o_90_32 : ax_Ok 90 52 (ax_get 7 8 33) := ok_get (C := RX7) (T := TX7) (N := 19) rfl in_X7 (by decide) wd_445 rfl dX7_same_52 rfl
theorem o_90_33 : ax_Ok 90 55 (ax_const 60 34) := ok_bipush (by decide) dX7_same_55 rfl
theorem o_90_34 : ax_Ok 90 57 (ax_iload 2 35) := ok_iload_n rfl dX7_same_57 rfl
theorem o_90_35 : ax_Ok 90 58 (ax_bin (fun x y => x * y) 36) := ok_imul dX7_same_58 rfl
theorem o_90_36 : ax_Ok 90 59 (ax_iload 4 37) := ok_iload dX7_same_59 rfl
theorem o_90_37 : ax_Ok 90 61 (ax_bin (fun x y => x + y) 38) := ok_iadd dX7_same_61 rfl
theorem o_90_38 : ax_Ok 90 62 (ax_ald 1 39) := ok_cald dX7_same_62 rfl
theorem o_90_39 : ax_Ok 90 63 (ax_icmp (fun x y => decide (¬ x = y)) 42 40) := ok_icmp_ne dX7_same_63 (by decide) rfl
theorem o_90_40 : ax_Ok 90 66 (ax_const 1 41) := ok_iconst (by decide) dX7_same_66 rfl
theorem o_90_41 : ax_Ok 90 67 (ax_goto 43) := ok_goto dX7_same_67 (by decide)
theorem o_90_42 : ax_Ok 90 70 (ax_const 0 43) := ok_iconst (by decide) dX7_same_70 rfl
theorem o_90_43 : ax_Ok 90 71 (ax_istore 3 44) := ok_istore_n rfl (by decide) dX7_same_71 rfl
theorem o_90_44 : ax_Ok 90 72 (ax_iinc 4 1 45) := ok_iinc (by decide) (by decide) dX7_same_72 rfl
theorem o_90_45 : ax_Ok 90 75 (ax_goto 15) := ok_goto dX7_same_75 (by decide)
theorem o_90_46 : ax_Ok 90 78 (ax_iload 3 47) := ok_iload_n rfl dX7_same_78 rfl
theorem o_90_47 : ax_Ok 90 79 (ax_ret 1) := ok_ret1 rfl dX7_same_79
theorem o_91_0 : ax_Ok 91 0 (ax_const 4 1) := ok_iconst (by decide) dX7_loopPart_0 rfl
theorem o_91_1 : ax_Ok 91 1 (ax_iload 1 2) := ok_iload_n rfl dX7_loopPart_1 rfl
theorem o_91_2 : ax_Ok 91 2 (ax_bin (fun x y => x * y) 3) := ok_imul dX7_loopPart_2 rfl
theorem o_91_3 : ax_Ok 91 3 (ax_iload 2 4) := ok_iload_n rfl dX7_loopPart_3 rfl
theorem o_91_4 : ax_Ok 91 4 (ax_bin (fun x y => x + y) 5) := ok_iadd dX7_loopPart_4 rfl
theorem o_91_5 : ax_Ok 91 5 (ax_istore 3 6) := ok_istore_n rfl (by decide) dX7_loopPart_5 rfl
theorem o_91_6 : ax_Ok 91 6 (ax_const 4 7) := ok_iconst (by decide) dX7_loopPart_6 rfl
theorem o_91_7 : ax_Ok 91 7 (ax_iload 1 8) := ok_iload_n rfl dX7_loopPart_7 rfl
theorem o_91_8 : ax_Ok 91 8 (ax_const 1 9) := ok_iconst (by decide) dX7_loopPart_8 rfl
theorem o_91_9 : ax_Ok 91 9 (ax_bin (fun x y => x + y) 10) := ok_iadd dX7_loopPart_9 rfl
theorem o_91_10 : ax_Ok 91 10 (ax_bin (fun x y => x * y) 11) := ok_imul dX7_loopPart_10 rfl
theorem o_91_11 : ax_Ok 91 11 (ax_iload 2 12) := ok_iload_n rfl dX7_loopPart_11 rfl
theorem o_91_12 : ax_Ok 91 12 (ax_bin (fun x y => x + y) 13) := ok_iadd dX7_loopPart_12 rfl
theorem o_91_13 : ax_Ok 91 13 (ax_istore 4 14) := ok_istore (by decide) dX7_loopPart_13 rfl
theorem o_91_14 : ax_Ok 91 15 (ax_const 0 15) := ok_iconst (by decide) dX7_loopPart_15 rfl
theorem o_91_15 : ax_Ok 91 16 (ax_istore 5 16) := ok_istore (by decide) dX7_loopPart_16 rfl
theorem o_91_16 : ax_Ok 91 18 (ax_const 0 17) := ok_iconst (by decide) dX7_loopPart_18 rfl
theorem o_91_17 : ax_Ok 91 19 (ax_istore 6 18) := ok_istore (by decide) dX7_loopPart_19 rfl
theorem o_91_18 : ax_Ok 91 21 (ax_iload 6 19) := ok_iload dX7_loopPart_21 rfl
theorem o_91_19 : ax_Ok 91 23 (ax_aload 0 20) := ok_aload_n rfl dX7_loopPart_23 rfl
theorem o_91_20 : ax_Ok 91 24 (ax_get 7 9 21) := ok_get (C := RX7) (T := TX7) (N := 19) rfl in_X7 (by decide) wd_446 rfl dX7_loopPart_24 rfl
theorem o_91_21 : ax_Ok 91 27 (ax_iload 4 22) := ok_iload dX7_loopPart_27 rfl
theorem o_91_22 : ax_Ok 91 29 (ax_ald 0 23) := ok_iald dX7_loopPart_29 rfl
theorem o_91_23 : ax_Ok 91 30 (ax_icmp (fun x y => decide (y ≤ x)) 45 24) := ok_icmp_ge dX7_loopPart_30 (by decide) rfl
theorem o_91_24 : ax_Ok 91 33 (ax_iload 5 25) := ok_iload dX7_loopPart_33 rfl
theorem o_91_25 : ax_Ok 91 35 (ax_if (fun x => decide (¬ x = 0)) 39 26) := ok_if_ne dX7_loopPart_35 (by decide) rfl
theorem o_91_26 : ax_Ok 91 38 (ax_aload 0 27) := ok_aload_n rfl dX7_loopPart_38 rfl
theorem o_91_27 : ax_Ok 91 39 (ax_get 7 8 28) := ok_get (C := RX7) (T := TX7) (N := 19) rfl in_X7 (by decide) wd_445 rfl dX7_loopPart_39 rfl
theorem o_91_28 : ax_Ok 91 42 (ax_const 60 29) := ok_bipush (by decide) dX7_loopPart_42 rfl
theorem o_91_29 : ax_Ok 91 44 (ax_iload 4 30) := ok_iload dX7_loopPart_44 rfl
theorem o_91_30 : ax_Ok 91 46 (ax_bin (fun x y => x * y) 31) := ok_imul dX7_loopPart_46 rfl
theorem o_91_31 : ax_Ok 91 47 (ax_iload 6 32) := ok_iload dX7_loopPart_47 rfl
theorem o_91_32 : ax_Ok 91 49 (ax_bin (fun x y => x + y) 33) := ok_iadd dX7_loopPart_49 rfl
theorem o_91_33 : ax_Ok 91 50 (ax_ald 1 34) := ok_cald dX7_loopPart_50 rfl
theorem o_91_34 : ax_Ok 91 51 (ax_aload 0 35) := ok_aload_n rfl dX7_loopPart_51 rfl
theorem o_91_35 : ax_Ok 91 52 (ax_get 7 4 36) := ok_get (C := RX7) (T := TX7) (N := 19) rfl in_X7 (by decide) wd_441 rfl dX7_loopPart_52 rfl
theorem o_91_36 : ax_Ok 91 55 (ax_iload 1 37) := ok_iload_n rfl dX7_loopPart_55 rfl
theorem o_91_37 : ax_Ok 91 56 (ax_ald 0 38) := ok_iald dX7_loopPart_56 rfl
theorem o_91_38 : ax_Ok 91 57 (ax_icmp (fun x y => decide (¬ x = y)) 41 39) := ok_icmp_ne dX7_loopPart_57 (by decide) rfl
theorem o_91_39 : ax_Ok 91 60 (ax_const 1 40) := ok_iconst (by decide) dX7_loopPart_60 rfl
theorem o_91_40 : ax_Ok 91 61 (ax_goto 42) := ok_goto dX7_loopPart_61 (by decide)
theorem o_91_41 : ax_Ok 91 64 (ax_const 0 42) := ok_iconst (by decide) dX7_loopPart_64 rfl
theorem o_91_42 : ax_Ok 91 65 (ax_istore 5 43) := ok_istore (by decide) dX7_loopPart_65 rfl
theorem o_91_43 : ax_Ok 91 67 (ax_iinc 6 1 44) := ok_iinc (by decide) (by decide) dX7_loopPart_67 rfl
theorem o_91_44 : ax_Ok 91 70 (ax_goto 18) := ok_goto dX7_loopPart_70 (by decide)
theorem o_91_45 : ax_Ok 91 73 (ax_aload 0 46) := ok_aload_n rfl dX7_loopPart_73 rfl
theorem o_91_46 : ax_Ok 91 74 (ax_get 7 9 47) := ok_get (C := RX7) (T := TX7) (N := 19) rfl in_X7 (by decide) wd_446 rfl dX7_loopPart_74 rfl
theorem o_91_47 : ax_Ok 91 77 (ax_iload 4 48) := ok_iload dX7_loopPart_77 rfl
theorem o_91_48 : ax_Ok 91 79 (ax_ald 0 49) := ok_iald dX7_loopPart_79 rfl
theorem o_91_49 : ax_Ok 91 80 (ax_if (fun x => decide (0 ≤ x)) 56 50) := ok_if_ge dX7_loopPart_80 (by decide) rfl
theorem o_91_50 : ax_Ok 91 83 (ax_aload 0 51) := ok_aload_n rfl dX7_loopPart_83 rfl
theorem o_91_51 : ax_Ok 91 84 (ax_get 7 9 52) := ok_get (C := RX7) (T := TX7) (N := 19) rfl in_X7 (by decide) wd_446 rfl dX7_loopPart_84 rfl
theorem o_91_52 : ax_Ok 91 87 (ax_iload 3 53) := ok_iload_n rfl dX7_loopPart_87 rfl
theorem o_91_53 : ax_Ok 91 88 (ax_const (-1) 54) := ok_iconst (by decide) dX7_loopPart_88 rfl
theorem o_91_54 : ax_Ok 91 89 (ax_ast 0 55) := ok_iast dX7_loopPart_89 rfl
theorem o_91_55 : ax_Ok 91 90 (ax_goto 90) := ok_goto dX7_loopPart_90 (by decide)
theorem o_91_56 : ax_Ok 91 93 (ax_iload 5 57) := ok_iload dX7_loopPart_93 rfl
theorem o_91_57 : ax_Ok 91 95 (ax_if (fun x => decide (x = 0)) 69 58) := ok_if_eq dX7_loopPart_95 (by decide) rfl
theorem o_91_58 : ax_Ok 91 98 (ax_aload 0 59) := ok_aload_n rfl dX7_loopPart_98 rfl
theorem o_91_59 : ax_Ok 91 99 (ax_get 7 9 60) := ok_get (C := RX7) (T := TX7) (N := 19) rfl in_X7 (by decide) wd_446 rfl dX7_loopPart_99 rfl
theorem o_91_60 : ax_Ok 91 102 (ax_iload 4 61) := ok_iload dX7_loopPart_102 rfl
theorem o_91_61 : ax_Ok 91 104 (ax_ald 0 62) := ok_iald dX7_loopPart_104 rfl
theorem o_91_62 : ax_Ok 91 105 (ax_const 1 63) := ok_iconst (by decide) dX7_loopPart_105 rfl
theorem o_91_63 : ax_Ok 91 106 (ax_icmp (fun x y => decide (¬ x = y)) 69 64) := ok_icmp_ne dX7_loopPart_106 (by decide) rfl
theorem o_91_64 : ax_Ok 91 109 (ax_aload 0 65) := ok_aload_n rfl dX7_loopPart_109 rfl
theorem o_91_65 : ax_Ok 91 110 (ax_iload 3 66) := ok_iload_n rfl dX7_loopPart_110 rfl
theorem o_91_66 : ax_Ok 91 111 (ax_const 101 67) := ok_bipush (by decide) dX7_loopPart_111 rfl
theorem o_91_67 : ax_Ok 91 113 (ax_callV 7 88 2 68) := ok_callV (C := RX7) rfl rfl wd_551 wd_553 wp_35 wd_8 mo_88 (by decide) dX7_loopPart_113 rfl
theorem o_91_68 : ax_Ok 91 116 (ax_goto 90) := ok_goto dX7_loopPart_116 (by decide)
theorem o_91_69 : ax_Ok 91 119 (ax_iload 5 70) := ok_iload dX7_loopPart_119 rfl
theorem o_91_70 : ax_Ok 91 121 (ax_if (fun x => decide (x = 0)) 86 71) := ok_if_eq dX7_loopPart_121 (by decide) rfl
theorem o_91_71 : ax_Ok 91 124 (ax_aload 0 72) := ok_aload_n rfl dX7_loopPart_124 rfl
theorem o_91_72 : ax_Ok 91 125 (ax_iload 3 73) := ok_iload_n rfl dX7_loopPart_125 rfl
theorem o_91_73 : ax_Ok 91 126 (ax_const 109 74) := ok_bipush (by decide) dX7_loopPart_126 rfl
theorem o_91_74 : ax_Ok 91 128 (ax_callV 7 88 2 75) := ok_callV (C := RX7) rfl rfl wd_551 wd_553 wp_35 wd_8 mo_88 (by decide) dX7_loopPart_128 rfl
theorem o_91_75 : ax_Ok 91 131 (ax_aload 0 76) := ok_aload_n rfl dX7_loopPart_131 rfl
theorem o_91_76 : ax_Ok 91 132 (ax_iload 3 77) := ok_iload_n rfl dX7_loopPart_132 rfl
theorem o_91_77 : ax_Ok 91 133 (ax_aload 0 78) := ok_aload_n rfl dX7_loopPart_133 rfl
theorem o_91_78 : ax_Ok 91 134 (ax_get 7 4 79) := ok_get (C := RX7) (T := TX7) (N := 19) rfl in_X7 (by decide) wd_441 rfl dX7_loopPart_134 rfl
theorem o_91_79 : ax_Ok 91 137 (ax_iload 1 80) := ok_iload_n rfl dX7_loopPart_137 rfl
theorem o_91_80 : ax_Ok 91 138 (ax_ald 0 81) := ok_iald dX7_loopPart_138 rfl
theorem o_91_81 : ax_Ok 91 139 (ax_callV 7 88 2 82) := ok_callV (C := RX7) rfl rfl wd_551 wd_553 wp_35 wd_8 mo_88 (by decide) dX7_loopPart_139 rfl
theorem o_91_82 : ax_Ok 91 142 (ax_aload 0 83) := ok_aload_n rfl dX7_loopPart_142 rfl
theorem o_91_83 : ax_Ok 91 143 (ax_iload 3 84) := ok_iload_n rfl dX7_loopPart_143 rfl
theorem o_91_84 : ax_Ok 91 144 (ax_const 46 85) := ok_bipush (by decide) dX7_loopPart_144 rfl
theorem o_91_85 : ax_Ok 91 146 (ax_callV 7 88 2 86) := ok_callV (C := RX7) rfl rfl wd_551 wd_553 wp_35 wd_8 mo_88 (by decide) dX7_loopPart_146 rfl
theorem o_91_86 : ax_Ok 91 149 (ax_aload 0 87) := ok_aload_n rfl dX7_loopPart_149 rfl
theorem o_91_87 : ax_Ok 91 150 (ax_iload 4 88) := ok_iload dX7_loopPart_150 rfl
theorem o_91_88 : ax_Ok 91 152 (ax_iload 3 89) := ok_iload_n rfl dX7_loopPart_152 rfl
theorem o_91_89 : ax_Ok 91 153 (ax_callV 7 89 2 90) := ok_callV (C := RX7) rfl rfl wd_555 wd_557 wp_36 wd_8 mo_89 (by decide) dX7_loopPart_153 rfl
theorem o_91_90 : ax_Ok 91 156 (ax_retv) := ok_retv rfl dX7_loopPart_156
theorem o_92_0 : ax_Ok 92 0 (ax_const 4 1) := ok_iconst (by decide) dX7_messagePart_0 rfl
theorem o_92_1 : ax_Ok 92 1 (ax_iload 1 2) := ok_iload_n rfl dX7_messagePart_1 rfl
theorem o_92_2 : ax_Ok 92 2 (ax_bin (fun x y => x * y) 3) := ok_imul dX7_messagePart_2 rfl
theorem o_92_3 : ax_Ok 92 3 (ax_iload 2 4) := ok_iload_n rfl dX7_messagePart_3 rfl
theorem o_92_4 : ax_Ok 92 4 (ax_bin (fun x y => x + y) 5) := ok_iadd dX7_messagePart_4 rfl
theorem o_92_5 : ax_Ok 92 5 (ax_istore 3 6) := ok_istore_n rfl (by decide) dX7_messagePart_5 rfl
theorem o_92_6 : ax_Ok 92 6 (ax_aload 0 7) := ok_aload_n rfl dX7_messagePart_6 rfl
theorem o_92_7 : ax_Ok 92 7 (ax_get 7 4 8) := ok_get (C := RX7) (T := TX7) (N := 19) rfl in_X7 (by decide) wd_441 rfl dX7_messagePart_7 rfl
theorem o_92_8 : ax_Ok 92 10 (ax_iload 1 9) := ok_iload_n rfl dX7_messagePart_10 rfl
theorem o_92_9 : ax_Ok 92 11 (ax_ald 0 10) := ok_iald dX7_messagePart_11 rfl
theorem o_92_10 : ax_Ok 92 12 (ax_const 65 11) := ok_bipush (by decide) dX7_messagePart_12 rfl
theorem o_92_11 : ax_Ok 92 14 (ax_iload 2 12) := ok_iload_n rfl dX7_messagePart_14 rfl
theorem o_92_12 : ax_Ok 92 15 (ax_bin (fun x y => x + y) 13) := ok_iadd dX7_messagePart_15 rfl
theorem o_92_13 : ax_Ok 92 16 (ax_icmp (fun x y => decide (¬ x = y)) 16 14) := ok_icmp_ne dX7_messagePart_16 (by decide) rfl
theorem o_92_14 : ax_Ok 92 19 (ax_const 1 15) := ok_iconst (by decide) dX7_messagePart_19 rfl
theorem o_92_15 : ax_Ok 92 20 (ax_goto 17) := ok_goto dX7_messagePart_20 (by decide)
theorem o_92_16 : ax_Ok 92 23 (ax_const 0 17) := ok_iconst (by decide) dX7_messagePart_23 rfl
theorem o_92_17 : ax_Ok 92 24 (ax_istore 4 18) := ok_istore (by decide) dX7_messagePart_24 rfl
theorem o_92_18 : ax_Ok 92 26 (ax_iload 4 19) := ok_iload dX7_messagePart_26 rfl
theorem o_92_19 : ax_Ok 92 28 (ax_if (fun x => decide (¬ x = 0)) 28 20) := ok_if_ne dX7_messagePart_28 (by decide) rfl
theorem o_92_20 : ax_Ok 92 31 (ax_aload 0 21) := ok_aload_n rfl dX7_messagePart_31 rfl
theorem o_92_21 : ax_Ok 92 32 (ax_get 7 5 22) := ok_get (C := RX7) (T := TX7) (N := 19) rfl in_X7 (by decide) wd_442 rfl dX7_messagePart_32 rfl
theorem o_92_22 : ax_Ok 92 35 (ax_iload 1 23) := ok_iload_n rfl dX7_messagePart_35 rfl
theorem o_92_23 : ax_Ok 92 36 (ax_ald 0 24) := ok_iald dX7_messagePart_36 rfl
theorem o_92_24 : ax_Ok 92 37 (ax_const 65 25) := ok_bipush (by decide) dX7_messagePart_37 rfl
theorem o_92_25 : ax_Ok 92 39 (ax_iload 2 26) := ok_iload_n rfl dX7_messagePart_39 rfl
theorem o_92_26 : ax_Ok 92 40 (ax_bin (fun x y => x + y) 27) := ok_iadd dX7_messagePart_40 rfl
theorem o_92_27 : ax_Ok 92 41 (ax_icmp (fun x y => decide (¬ x = y)) 30 28) := ok_icmp_ne dX7_messagePart_41 (by decide) rfl
theorem o_92_28 : ax_Ok 92 44 (ax_const 1 29) := ok_iconst (by decide) dX7_messagePart_44 rfl
theorem o_92_29 : ax_Ok 92 45 (ax_goto 31) := ok_goto dX7_messagePart_45 (by decide)
theorem o_92_30 : ax_Ok 92 48 (ax_const 0 31) := ok_iconst (by decide) dX7_messagePart_48 rfl
theorem o_92_31 : ax_Ok 92 49 (ax_istore 5 32) := ok_istore (by decide) dX7_messagePart_49 rfl
theorem o_92_32 : ax_Ok 92 51 (ax_const (-1) 33) := ok_iconst (by decide) dX7_messagePart_51 rfl
theorem o_92_33 : ax_Ok 92 52 (ax_istore 6 34) := ok_istore (by decide) dX7_messagePart_52 rfl
theorem o_92_34 : ax_Ok 92 54 (ax_const 1 35) := ok_iconst (by decide) dX7_messagePart_54 rfl
theorem o_92_35 : ax_Ok 92 55 (ax_istore 7 36) := ok_istore (by decide) dX7_messagePart_55 rfl
theorem o_92_36 : ax_Ok 92 57 (ax_iload 5 37) := ok_iload dX7_messagePart_57 rfl
theorem o_92_37 : ax_Ok 92 59 (ax_if (fun x => decide (x = 0)) 60 38) := ok_if_eq dX7_messagePart_59 (by decide) rfl
theorem o_92_38 : ax_Ok 92 62 (ax_aload 0 39) := ok_aload_n rfl dX7_messagePart_62 rfl
theorem o_92_39 : ax_Ok 92 63 (ax_iload 3 40) := ok_iload_n rfl dX7_messagePart_63 rfl
theorem o_92_40 : ax_Ok 92 64 (ax_iload 4 41) := ok_iload dX7_messagePart_64 rfl
theorem o_92_41 : ax_Ok 92 66 (ax_if (fun x => decide (x = 0)) 47 42) := ok_if_eq dX7_messagePart_66 (by decide) rfl
theorem o_92_42 : ax_Ok 92 69 (ax_aload 0 43) := ok_aload_n rfl dX7_messagePart_69 rfl
theorem o_92_43 : ax_Ok 92 70 (ax_get 7 5 44) := ok_get (C := RX7) (T := TX7) (N := 19) rfl in_X7 (by decide) wd_442 rfl dX7_messagePart_70 rfl
theorem o_92_44 : ax_Ok 92 73 (ax_iload 1 45) := ok_iload_n rfl dX7_messagePart_73 rfl
theorem o_92_45 : ax_Ok 92 74 (ax_ald 0 46) := ok_iald dX7_messagePart_74 rfl
theorem o_92_46 : ax_Ok 92 75 (ax_goto 51) := ok_goto dX7_messagePart_75 (by decide)
theorem o_92_47 : ax_Ok 92 78 (ax_aload 0 48) := ok_aload_n rfl dX7_messagePart_78 rfl
theorem o_92_48 : ax_Ok 92 79 (ax_get 7 4 49) := ok_get (C := RX7) (T := TX7) (N := 19) rfl in_X7 (by decide) wd_441 rfl dX7_messagePart_79 rfl
theorem o_92_49 : ax_Ok 92 82 (ax_iload 1 50) := ok_iload_n rfl dX7_messagePart_82 rfl
theorem o_92_50 : ax_Ok 92 83 (ax_ald 0 51) := ok_iald dX7_messagePart_83 rfl
theorem o_92_51 : ax_Ok 92 84 (ax_callV 7 88 2 52) := ok_callV (C := RX7) rfl rfl wd_551 wd_553 wp_35 wd_8 mo_88 (by decide) dX7_messagePart_84 rfl
theorem o_92_52 : ax_Ok 92 87 (ax_aload 0 53) := ok_aload_n rfl dX7_messagePart_87 rfl
theorem o_92_53 : ax_Ok 92 88 (ax_iload 3 54) := ok_iload_n rfl dX7_messagePart_88 rfl
theorem o_92_54 : ax_Ok 92 89 (ax_iload 4 55) := ok_iload dX7_messagePart_89 rfl
theorem o_92_55 : ax_Ok 92 91 (ax_if (fun x => decide (x = 0)) 58 56) := ok_if_eq dX7_messagePart_91 (by decide) rfl
theorem o_92_56 : ax_Ok 92 94 (ax_const 33 57) := ok_bipush (by decide) dX7_messagePart_94 rfl
theorem o_92_57 : ax_Ok 92 96 (ax_goto 59) := ok_goto dX7_messagePart_96 (by decide)
theorem o_92_58 : ax_Ok 92 99 (ax_const 63 59) := ok_bipush (by decide) dX7_messagePart_99 rfl
theorem o_92_59 : ax_Ok 92 101 (ax_callV 7 88 2 60) := ok_callV (C := RX7) rfl rfl wd_551 wd_553 wp_35 wd_8 mo_88 (by decide) dX7_messagePart_101 rfl
theorem o_92_60 : ax_Ok 92 104 (ax_iload 1 61) := ok_iload_n rfl dX7_messagePart_104 rfl
theorem o_92_61 : ax_Ok 92 105 (ax_const 1 62) := ok_iconst (by decide) dX7_messagePart_105 rfl
theorem o_92_62 : ax_Ok 92 106 (ax_bin (fun x y => x + y) 63) := ok_iadd dX7_messagePart_106 rfl
theorem o_92_63 : ax_Ok 92 107 (ax_istore 8 64) := ok_istore (by decide) dX7_messagePart_107 rfl
theorem o_92_64 : ax_Ok 92 109 (ax_iload 8 65) := ok_iload dX7_messagePart_109 rfl
theorem o_92_65 : ax_Ok 92 111 (ax_aload 0 66) := ok_aload_n rfl dX7_messagePart_111 rfl
theorem o_92_66 : ax_Ok 92 112 (ax_get 7 2 67) := ok_get (C := RX7) (T := TX7) (N := 19) rfl in_X7 (by decide) wd_439 rfl dX7_messagePart_112 rfl
theorem o_92_67 : ax_Ok 92 115 (ax_icmp (fun x y => decide (y ≤ x)) 132 68) := ok_icmp_ge dX7_messagePart_115 (by decide) rfl
theorem o_92_68 : ax_Ok 92 118 (ax_iload 7 69) := ok_iload dX7_messagePart_118 rfl
theorem o_92_69 : ax_Ok 92 120 (ax_if (fun x => decide (x = 0)) 132 70) := ok_if_eq dX7_messagePart_120 (by decide) rfl
theorem o_92_70 : ax_Ok 92 123 (ax_aload 0 71) := ok_aload_n rfl dX7_messagePart_123 rfl
theorem o_92_71 : ax_Ok 92 124 (ax_get 7 6 72) := ok_get (C := RX7) (T := TX7) (N := 19) rfl in_X7 (by decide) wd_443 rfl dX7_messagePart_124 rfl
theorem o_92_72 : ax_Ok 92 127 (ax_iload 8 73) := ok_iload dX7_messagePart_127 rfl
theorem o_92_73 : ax_Ok 92 129 (ax_ald 0 74) := ok_iald dX7_messagePart_129 rfl
theorem o_92_74 : ax_Ok 92 130 (ax_iload 1 75) := ok_iload_n rfl dX7_messagePart_130 rfl
theorem o_92_75 : ax_Ok 92 131 (ax_icmp (fun x y => decide (x = y)) 77 76) := ok_icmp_eq dX7_messagePart_131 (by decide) rfl
theorem o_92_76 : ax_Ok 92 134 (ax_goto 130) := ok_goto dX7_messagePart_134 (by decide)
theorem o_92_77 : ax_Ok 92 137 (ax_const 4 78) := ok_iconst (by decide) dX7_messagePart_137 rfl
theorem o_92_78 : ax_Ok 92 138 (ax_iload 8 79) := ok_iload dX7_messagePart_138 rfl
theorem o_92_79 : ax_Ok 92 140 (ax_bin (fun x y => x * y) 80) := ok_imul dX7_messagePart_140 rfl
theorem o_92_80 : ax_Ok 92 141 (ax_iload 2 81) := ok_iload_n rfl dX7_messagePart_141 rfl
theorem o_92_81 : ax_Ok 92 142 (ax_bin (fun x y => x + y) 82) := ok_iadd dX7_messagePart_142 rfl
theorem o_92_82 : ax_Ok 92 143 (ax_istore 9 83) := ok_istore (by decide) dX7_messagePart_143 rfl
theorem o_92_83 : ax_Ok 92 145 (ax_aload 0 84) := ok_aload_n rfl dX7_messagePart_145 rfl
theorem o_92_84 : ax_Ok 92 146 (ax_get 7 9 85) := ok_get (C := RX7) (T := TX7) (N := 19) rfl in_X7 (by decide) wd_446 rfl dX7_messagePart_146 rfl
theorem o_92_85 : ax_Ok 92 149 (ax_iload 9 86) := ok_iload dX7_messagePart_149 rfl
theorem o_92_86 : ax_Ok 92 151 (ax_ald 0 87) := ok_iald dX7_messagePart_151 rfl
theorem o_92_87 : ax_Ok 92 152 (ax_if (fun x => decide (x < 0)) 99 88) := ok_if_lt dX7_messagePart_152 (by decide) rfl
theorem o_92_88 : ax_Ok 92 155 (ax_iload 5 89) := ok_iload dX7_messagePart_155 rfl
theorem o_92_89 : ax_Ok 92 157 (ax_if (fun x => decide (¬ x = 0)) 97 90) := ok_if_ne dX7_messagePart_157 (by decide) rfl
theorem o_92_90 : ax_Ok 92 160 (ax_iload 6 91) := ok_iload dX7_messagePart_160 rfl
theorem o_92_91 : ax_Ok 92 162 (ax_if (fun x => decide (x < 0)) 97 92) := ok_if_lt dX7_messagePart_162 (by decide) rfl
theorem o_92_92 : ax_Ok 92 165 (ax_aload 0 93) := ok_aload_n rfl dX7_messagePart_165 rfl
theorem o_92_93 : ax_Ok 92 166 (ax_iload 6 94) := ok_iload dX7_messagePart_166 rfl
theorem o_92_94 : ax_Ok 92 168 (ax_iload 9 95) := ok_iload dX7_messagePart_168 rfl
theorem o_92_95 : ax_Ok 92 170 (ax_callV 7 90 2 96) := ok_callV (C := RX7) rfl rfl wd_563 wd_565 wp_38 wd_8 mo_90 (by decide) dX7_messagePart_170 rfl
theorem o_92_96 : ax_Ok 92 173 (ax_if (fun x => decide (x = 0)) 99 97) := ok_if_eq dX7_messagePart_173 (by decide) rfl
theorem o_92_97 : ax_Ok 92 176 (ax_const 1 98) := ok_iconst (by decide) dX7_messagePart_176 rfl
theorem o_92_98 : ax_Ok 92 177 (ax_goto 100) := ok_goto dX7_messagePart_177 (by decide)
theorem o_92_99 : ax_Ok 92 180 (ax_const 0 100) := ok_iconst (by decide) dX7_messagePart_180 rfl
theorem o_92_100 : ax_Ok 92 181 (ax_istore 7 101) := ok_istore (by decide) dX7_messagePart_181 rfl
theorem o_92_101 : ax_Ok 92 183 (ax_iload 5 102) := ok_iload dX7_messagePart_183 rfl
theorem o_92_102 : ax_Ok 92 185 (ax_if (fun x => decide (x = 0)) 128 103) := ok_if_eq dX7_messagePart_185 (by decide) rfl
theorem o_92_103 : ax_Ok 92 188 (ax_iload 7 104) := ok_iload dX7_messagePart_188 rfl
theorem o_92_104 : ax_Ok 92 190 (ax_if (fun x => decide (x = 0)) 128 105) := ok_if_eq dX7_messagePart_190 (by decide) rfl
theorem o_92_105 : ax_Ok 92 193 (ax_aload 0 106) := ok_aload_n rfl dX7_messagePart_193 rfl
theorem o_92_106 : ax_Ok 92 194 (ax_iload 3 107) := ok_iload_n rfl dX7_messagePart_194 rfl
theorem o_92_107 : ax_Ok 92 195 (ax_iload 6 108) := ok_iload dX7_messagePart_195 rfl
theorem o_92_108 : ax_Ok 92 197 (ax_if (fun x => decide (0 ≤ x)) 111 109) := ok_if_ge dX7_messagePart_197 (by decide) rfl
theorem o_92_109 : ax_Ok 92 200 (ax_const 123 110) := ok_bipush (by decide) dX7_messagePart_200 rfl
theorem o_92_110 : ax_Ok 92 202 (ax_goto 112) := ok_goto dX7_messagePart_202 (by decide)
theorem o_92_111 : ax_Ok 92 205 (ax_const 44 112) := ok_bipush (by decide) dX7_messagePart_205 rfl
theorem o_92_112 : ax_Ok 92 207 (ax_callV 7 88 2 113) := ok_callV (C := RX7) rfl rfl wd_551 wd_553 wp_35 wd_8 mo_88 (by decide) dX7_messagePart_207 rfl
theorem o_92_113 : ax_Ok 92 210 (ax_aload 0 114) := ok_aload_n rfl dX7_messagePart_210 rfl
theorem o_92_114 : ax_Ok 92 211 (ax_iload 3 115) := ok_iload_n rfl dX7_messagePart_211 rfl
theorem o_92_115 : ax_Ok 92 212 (ax_aload 0 116) := ok_aload_n rfl dX7_messagePart_212 rfl
theorem o_92_116 : ax_Ok 92 213 (ax_get 7 7 117) := ok_get (C := RX7) (T := TX7) (N := 19) rfl in_X7 (by decide) wd_444 rfl dX7_messagePart_213 rfl
theorem o_92_117 : ax_Ok 92 216 (ax_iload 8 118) := ok_iload dX7_messagePart_216 rfl
theorem o_92_118 : ax_Ok 92 218 (ax_ald 0 119) := ok_iald dX7_messagePart_218 rfl
theorem o_92_119 : ax_Ok 92 219 (ax_callV 7 88 2 120) := ok_callV (C := RX7) rfl rfl wd_551 wd_553 wp_35 wd_8 mo_88 (by decide) dX7_messagePart_219 rfl
theorem o_92_120 : ax_Ok 92 222 (ax_aload 0 121) := ok_aload_n rfl dX7_messagePart_222 rfl
theorem o_92_121 : ax_Ok 92 223 (ax_iload 3 122) := ok_iload_n rfl dX7_messagePart_223 rfl
theorem o_92_122 : ax_Ok 92 224 (ax_const 46 123) := ok_bipush (by decide) dX7_messagePart_224 rfl
theorem o_92_123 : ax_Ok 92 226 (ax_callV 7 88 2 124) := ok_callV (C := RX7) rfl rfl wd_551 wd_553 wp_35 wd_8 mo_88 (by decide) dX7_messagePart_226 rfl
theorem o_92_124 : ax_Ok 92 229 (ax_aload 0 125) := ok_aload_n rfl dX7_messagePart_229 rfl
theorem o_92_125 : ax_Ok 92 230 (ax_iload 9 126) := ok_iload dX7_messagePart_230 rfl
theorem o_92_126 : ax_Ok 92 232 (ax_iload 3 127) := ok_iload_n rfl dX7_messagePart_232 rfl
theorem o_92_127 : ax_Ok 92 233 (ax_callV 7 89 2 128) := ok_callV (C := RX7) rfl rfl wd_555 wd_557 wp_36 wd_8 mo_89 (by decide) dX7_messagePart_233 rfl
theorem o_92_128 : ax_Ok 92 236 (ax_iload 9 129) := ok_iload dX7_messagePart_236 rfl
theorem o_92_129 : ax_Ok 92 238 (ax_istore 6 130) := ok_istore (by decide) dX7_messagePart_238 rfl
theorem o_92_130 : ax_Ok 92 240 (ax_iinc 8 1 131) := ok_iinc (by decide) (by decide) dX7_messagePart_240 rfl
theorem o_92_131 : ax_Ok 92 243 (ax_goto 64) := ok_goto dX7_messagePart_243 (by decide)
theorem o_92_132 : ax_Ok 92 246 (ax_iload 7 133) := ok_iload dX7_messagePart_246 rfl
theorem o_92_133 : ax_Ok 92 248 (ax_if (fun x => decide (¬ x = 0)) 140 134) := ok_if_ne dX7_messagePart_248 (by decide) rfl
theorem o_92_134 : ax_Ok 92 251 (ax_aload 0 135) := ok_aload_n rfl dX7_messagePart_251 rfl
theorem o_92_135 : ax_Ok 92 252 (ax_get 7 9 136) := ok_get (C := RX7) (T := TX7) (N := 19) rfl in_X7 (by decide) wd_446 rfl dX7_messagePart_252 rfl
theorem o_92_136 : ax_Ok 92 255 (ax_iload 3 137) := ok_iload_n rfl dX7_messagePart_255 rfl
theorem o_92_137 : ax_Ok 92 256 (ax_const (-1) 138) := ok_iconst (by decide) dX7_messagePart_256 rfl
theorem o_92_138 : ax_Ok 92 257 (ax_ast 0 139) := ok_iast dX7_messagePart_257 rfl
theorem o_92_139 : ax_Ok 92 258 (ax_goto 151) := ok_goto dX7_messagePart_258 (by decide)
theorem o_92_140 : ax_Ok 92 261 (ax_iload 5 141) := ok_iload dX7_messagePart_261 rfl
theorem o_92_141 : ax_Ok 92 263 (ax_if (fun x => decide (x = 0)) 147 142) := ok_if_eq dX7_messagePart_263 (by decide) rfl
theorem o_92_142 : ax_Ok 92 266 (ax_aload 0 143) := ok_aload_n rfl dX7_messagePart_266 rfl
theorem o_92_143 : ax_Ok 92 267 (ax_iload 3 144) := ok_iload_n rfl dX7_messagePart_267 rfl
theorem o_92_144 : ax_Ok 92 268 (ax_const 125 145) := ok_bipush (by decide) dX7_messagePart_268 rfl
theorem o_92_145 : ax_Ok 92 270 (ax_callV 7 88 2 146) := ok_callV (C := RX7) rfl rfl wd_551 wd_553 wp_35 wd_8 mo_88 (by decide) dX7_messagePart_270 rfl
theorem o_92_146 : ax_Ok 92 273 (ax_goto 151) := ok_goto dX7_messagePart_273 (by decide)
theorem o_92_147 : ax_Ok 92 276 (ax_aload 0 148) := ok_aload_n rfl dX7_messagePart_276 rfl
theorem o_92_148 : ax_Ok 92 277 (ax_iload 6 149) := ok_iload dX7_messagePart_277 rfl
theorem o_92_149 : ax_Ok 92 279 (ax_iload 3 150) := ok_iload_n rfl dX7_messagePart_279 rfl
theorem o_92_150 : ax_Ok 92 280 (ax_callV 7 89 2 151) := ok_callV (C := RX7) rfl rfl wd_555 wd_557 wp_36 wd_8 mo_89 (by decide) dX7_messagePart_280 rfl
theorem o_92_151 : ax_Ok 92 283 (ax_retv) := ok_retv rfl dX7_messagePart_283
theorem o_93_0 : ax_Ok 93 0 (ax_aload 0 1) := ok_aload_n rfl dX7_project_0 rfl
theorem o_93_1 : ax_Ok 93 1 (ax_get 7 2 2) := ok_get (C := RX7) (T := TX7) (N := 19) rfl in_X7 (by decide) wd_439 rfl dX7_project_1 rfl
theorem o_93_2 : ax_Ok 93 4 (ax_const 1 3) := ok_iconst (by decide) dX7_project_4 rfl
theorem o_93_3 : ax_Ok 93 5 (ax_bin (fun x y => x - y) 4) := ok_isub dX7_project_5 rfl
theorem o_93_4 : ax_Ok 93 6 (ax_istore 1 5) := ok_istore_n rfl (by decide) dX7_project_6 rfl
theorem o_93_5 : ax_Ok 93 7 (ax_iload 1 6) := ok_iload_n rfl dX7_project_7 rfl
theorem o_93_6 : ax_Ok 93 8 (ax_if (fun x => decide (x < 0)) 58 7) := ok_if_lt dX7_project_8 (by decide) rfl
theorem o_93_7 : ax_Ok 93 11 (ax_const 0 8) := ok_iconst (by decide) dX7_project_11 rfl
theorem o_93_8 : ax_Ok 93 12 (ax_istore 2 9) := ok_istore_n rfl (by decide) dX7_project_12 rfl
theorem o_93_9 : ax_Ok 93 13 (ax_iload 2 10) := ok_iload_n rfl dX7_project_13 rfl
theorem o_93_10 : ax_Ok 93 14 (ax_const 4 11) := ok_iconst (by decide) dX7_project_14 rfl
theorem o_93_11 : ax_Ok 93 15 (ax_icmp (fun x y => decide (y ≤ x)) 56 12) := ok_icmp_ge dX7_project_15 (by decide) rfl
theorem o_93_12 : ax_Ok 93 18 (ax_aload 0 13) := ok_aload_n rfl dX7_project_18 rfl
theorem o_93_13 : ax_Ok 93 19 (ax_get 7 9 14) := ok_get (C := RX7) (T := TX7) (N := 19) rfl in_X7 (by decide) wd_446 rfl dX7_project_19 rfl
theorem o_93_14 : ax_Ok 93 22 (ax_const 4 15) := ok_iconst (by decide) dX7_project_22 rfl
theorem o_93_15 : ax_Ok 93 23 (ax_iload 1 16) := ok_iload_n rfl dX7_project_23 rfl
theorem o_93_16 : ax_Ok 93 24 (ax_bin (fun x y => x * y) 17) := ok_imul dX7_project_24 rfl
theorem o_93_17 : ax_Ok 93 25 (ax_iload 2 18) := ok_iload_n rfl dX7_project_25 rfl
theorem o_93_18 : ax_Ok 93 26 (ax_bin (fun x y => x + y) 19) := ok_iadd dX7_project_26 rfl
theorem o_93_19 : ax_Ok 93 27 (ax_const 0 20) := ok_iconst (by decide) dX7_project_27 rfl
theorem o_93_20 : ax_Ok 93 28 (ax_ast 0 21) := ok_iast dX7_project_28 rfl
theorem o_93_21 : ax_Ok 93 29 (ax_aload 0 22) := ok_aload_n rfl dX7_project_29 rfl
theorem o_93_22 : ax_Ok 93 30 (ax_get 7 3 23) := ok_get (C := RX7) (T := TX7) (N := 19) rfl in_X7 (by decide) wd_440 rfl dX7_project_30 rfl
theorem o_93_23 : ax_Ok 93 33 (ax_iload 1 24) := ok_iload_n rfl dX7_project_33 rfl
theorem o_93_24 : ax_Ok 93 34 (ax_ald 0 25) := ok_iald dX7_project_34 rfl
theorem o_93_25 : ax_Ok 93 35 (ax_const 2 26) := ok_iconst (by decide) dX7_project_35 rfl
theorem o_93_26 : ax_Ok 93 36 (ax_icmp (fun x y => decide (¬ x = y)) 32 27) := ok_icmp_ne dX7_project_36 (by decide) rfl
theorem o_93_27 : ax_Ok 93 39 (ax_aload 0 28) := ok_aload_n rfl dX7_project_39 rfl
theorem o_93_28 : ax_Ok 93 40 (ax_iload 1 29) := ok_iload_n rfl dX7_project_40 rfl
theorem o_93_29 : ax_Ok 93 41 (ax_iload 2 30) := ok_iload_n rfl dX7_project_41 rfl
theorem o_93_30 : ax_Ok 93 42 (ax_callV 7 91 2 31) := ok_callV (C := RX7) rfl rfl wd_547 wd_549 wp_34 wd_8 mo_91 (by decide) dX7_project_42 rfl
theorem o_93_31 : ax_Ok 93 45 (ax_goto 54) := ok_goto dX7_project_45 (by decide)
theorem o_93_32 : ax_Ok 93 48 (ax_aload 0 33) := ok_aload_n rfl dX7_project_48 rfl
theorem o_93_33 : ax_Ok 93 49 (ax_get 7 3 34) := ok_get (C := RX7) (T := TX7) (N := 19) rfl in_X7 (by decide) wd_440 rfl dX7_project_49 rfl
theorem o_93_34 : ax_Ok 93 52 (ax_iload 1 35) := ok_iload_n rfl dX7_project_52 rfl
theorem o_93_35 : ax_Ok 93 53 (ax_ald 0 36) := ok_iald dX7_project_53 rfl
theorem o_93_36 : ax_Ok 93 54 (ax_const 3 37) := ok_iconst (by decide) dX7_project_54 rfl
theorem o_93_37 : ax_Ok 93 55 (ax_icmp (fun x y => decide (¬ x = y)) 43 38) := ok_icmp_ne dX7_project_55 (by decide) rfl
theorem o_93_38 : ax_Ok 93 58 (ax_aload 0 39) := ok_aload_n rfl dX7_project_58 rfl
theorem o_93_39 : ax_Ok 93 59 (ax_iload 1 40) := ok_iload_n rfl dX7_project_59 rfl
theorem o_93_40 : ax_Ok 93 60 (ax_iload 2 41) := ok_iload_n rfl dX7_project_60 rfl
theorem o_93_41 : ax_Ok 93 61 (ax_callV 7 92 2 42) := ok_callV (C := RX7) rfl rfl wd_559 wd_561 wp_37 wd_8 mo_92 (by decide) dX7_project_61 rfl
theorem o_93_42 : ax_Ok 93 64 (ax_goto 54) := ok_goto dX7_project_64 (by decide)
theorem o_93_43 : ax_Ok 93 67 (ax_aload 0 44) := ok_aload_n rfl dX7_project_67 rfl
theorem o_93_44 : ax_Ok 93 68 (ax_const 4 45) := ok_iconst (by decide) dX7_project_68 rfl
theorem o_93_45 : ax_Ok 93 69 (ax_iload 1 46) := ok_iload_n rfl dX7_project_69 rfl
theorem o_93_46 : ax_Ok 93 70 (ax_bin (fun x y => x * y) 47) := ok_imul dX7_project_70 rfl
theorem o_93_47 : ax_Ok 93 71 (ax_iload 2 48) := ok_iload_n rfl dX7_project_71 rfl
theorem o_93_48 : ax_Ok 93 72 (ax_bin (fun x y => x + y) 49) := ok_iadd dX7_project_72 rfl
theorem o_93_49 : ax_Ok 93 73 (ax_aload 0 50) := ok_aload_n rfl dX7_project_73 rfl
theorem o_93_50 : ax_Ok 93 74 (ax_get 7 4 51) := ok_get (C := RX7) (T := TX7) (N := 19) rfl in_X7 (by decide) wd_441 rfl dX7_project_74 rfl
theorem o_93_51 : ax_Ok 93 77 (ax_iload 1 52) := ok_iload_n rfl dX7_project_77 rfl
theorem o_93_52 : ax_Ok 93 78 (ax_ald 0 53) := ok_iald dX7_project_78 rfl
theorem o_93_53 : ax_Ok 93 79 (ax_callV 7 88 2 54) := ok_callV (C := RX7) rfl rfl wd_551 wd_553 wp_35 wd_8 mo_88 (by decide) dX7_project_79 rfl
theorem o_93_54 : ax_Ok 93 82 (ax_iinc 2 1 55) := ok_iinc (by decide) (by decide) dX7_project_82 rfl
theorem o_93_55 : ax_Ok 93 85 (ax_goto 9) := ok_goto dX7_project_85 (by decide)
theorem o_93_56 : ax_Ok 93 88 (ax_iinc 1 (-1) 57) := ok_iinc (by decide) (by decide) dX7_project_88 rfl
theorem o_93_57 : ax_Ok 93 91 (ax_goto 5) := ok_goto dX7_project_91 (by decide)
theorem o_93_58 : ax_Ok 93 94 (ax_retv) := ok_retv rfl dX7_project_94
theorem o_94_0 : ax_Ok 94 0 (ax_aload 0 1) := ok_aload_n rfl dX7_define_0 rfl
theorem o_94_1 : ax_Ok 94 1 (ax_callV 7 83 0 2) := ok_callV (C := RX7) rfl rfl wd_503 wd_505 wp_26 wd_8 mo_83 (by decide) dX7_define_1 rfl
theorem o_94_2 : ax_Ok 94 4 (ax_istore 1 3) := ok_istore_n rfl (by decide) dX7_define_4 rfl
theorem o_94_3 : ax_Ok 94 5 (ax_aload 0 4) := ok_aload_n rfl dX7_define_5 rfl
theorem o_94_4 : ax_Ok 94 6 (ax_const 0 5) := ok_iconst (by decide) dX7_define_6 rfl
theorem o_94_5 : ax_Ok 94 7 (ax_put 7 0 0 6) := ok_put (C := RX7) (T := TX7) (N := 19) rfl in_X7 tyX7 tyX7_ok nmX7 (by decide) wd_437 rfl rfl rfl dX7_define_7 rfl
theorem o_94_6 : ax_Ok 94 10 (ax_iload 1 7) := ok_iload_n rfl dX7_define_10 rfl
theorem o_94_7 : ax_Ok 94 11 (ax_if (fun x => decide (x < 0)) 10 8) := ok_if_lt dX7_define_11 (by decide) rfl
theorem o_94_8 : ax_Ok 94 14 (ax_iload 1 9) := ok_iload_n rfl dX7_define_14 rfl
theorem o_94_9 : ax_Ok 94 15 (ax_ret 0) := ok_ret0 rfl dX7_define_15
theorem o_94_10 : ax_Ok 94 16 (ax_aload 0 11) := ok_aload_n rfl dX7_define_16 rfl
theorem o_94_11 : ax_Ok 94 17 (ax_callV 7 87 0 12) := ok_callV (C := RX7) rfl rfl wd_527 wd_529 wp_29 wd_8 mo_87 (by decide) dX7_define_17 rfl
theorem o_94_12 : ax_Ok 94 20 (ax_if (fun x => decide (¬ x = 0)) 15 13) := ok_if_ne dX7_define_20 (by decide) rfl
theorem o_94_13 : ax_Ok 94 23 (ax_const (-2) 14) := ok_bipush (by decide) dX7_define_23 rfl
theorem o_94_14 : ax_Ok 94 25 (ax_ret 0) := ok_ret0 rfl dX7_define_25
theorem o_94_15 : ax_Ok 94 26 (ax_aload 0 16) := ok_aload_n rfl dX7_define_26 rfl
theorem o_94_16 : ax_Ok 94 27 (ax_callV 7 93 0 17) := ok_callV (C := RX7) rfl rfl wd_543 wd_545 wp_33 wd_8 mo_93 (by decide) dX7_define_27 rfl
theorem o_94_17 : ax_Ok 94 30 (ax_aload 0 18) := ok_aload_n rfl dX7_define_30 rfl
theorem o_94_18 : ax_Ok 94 31 (ax_const 0 19) := ok_iconst (by decide) dX7_define_31 rfl
theorem o_94_19 : ax_Ok 94 32 (ax_put 7 11 0 20) := ok_put (C := RX7) (T := TX7) (N := 19) rfl in_X7 tyX7 tyX7_ok nmX7 (by decide) wd_448 rfl rfl rfl dX7_define_32 rfl
theorem o_94_20 : ax_Ok 94 35 (ax_const 0 21) := ok_iconst (by decide) dX7_define_35 rfl
theorem o_94_21 : ax_Ok 94 36 (ax_istore 2 22) := ok_istore_n rfl (by decide) dX7_define_36 rfl
theorem o_94_22 : ax_Ok 94 37 (ax_iload 2 23) := ok_iload_n rfl dX7_define_37 rfl
theorem o_94_23 : ax_Ok 94 38 (ax_aload 0 24) := ok_aload_n rfl dX7_define_38 rfl
theorem o_94_24 : ax_Ok 94 39 (ax_get 7 2 25) := ok_get (C := RX7) (T := TX7) (N := 19) rfl in_X7 (by decide) wd_439 rfl dX7_define_39 rfl
theorem o_94_25 : ax_Ok 94 42 (ax_icmp (fun x y => decide (y ≤ x)) 42 26) := ok_icmp_ge dX7_define_42 (by decide) rfl
theorem o_94_26 : ax_Ok 94 45 (ax_aload 0 27) := ok_aload_n rfl dX7_define_45 rfl
theorem o_94_27 : ax_Ok 94 46 (ax_dup 28) := ok_dup dX7_define_46 rfl
theorem o_94_28 : ax_Ok 94 47 (ax_get 7 11 29) := ok_get (C := RX7) (T := TX7) (N := 19) rfl in_X7 (by decide) wd_448 rfl dX7_define_47 rfl
theorem o_94_29 : ax_Ok 94 50 (ax_aload 0 30) := ok_aload_n rfl dX7_define_50 rfl
theorem o_94_30 : ax_Ok 94 51 (ax_get 7 3 31) := ok_get (C := RX7) (T := TX7) (N := 19) rfl in_X7 (by decide) wd_440 rfl dX7_define_51 rfl
theorem o_94_31 : ax_Ok 94 54 (ax_iload 2 32) := ok_iload_n rfl dX7_define_54 rfl
theorem o_94_32 : ax_Ok 94 55 (ax_ald 0 33) := ok_iald dX7_define_55 rfl
theorem o_94_33 : ax_Ok 94 56 (ax_const 3 34) := ok_iconst (by decide) dX7_define_56 rfl
theorem o_94_34 : ax_Ok 94 57 (ax_icmp (fun x y => decide (¬ x = y)) 37 35) := ok_icmp_ne dX7_define_57 (by decide) rfl
theorem o_94_35 : ax_Ok 94 60 (ax_const 1 36) := ok_iconst (by decide) dX7_define_60 rfl
theorem o_94_36 : ax_Ok 94 61 (ax_goto 38) := ok_goto dX7_define_61 (by decide)
theorem o_94_37 : ax_Ok 94 64 (ax_const 0 38) := ok_iconst (by decide) dX7_define_64 rfl
theorem o_94_38 : ax_Ok 94 65 (ax_bin (fun x y => x + y) 39) := ok_iadd dX7_define_65 rfl
theorem o_94_39 : ax_Ok 94 66 (ax_put 7 11 0 40) := ok_put (C := RX7) (T := TX7) (N := 19) rfl in_X7 tyX7 tyX7_ok nmX7 (by decide) wd_448 rfl rfl rfl dX7_define_66 rfl
theorem o_94_40 : ax_Ok 94 69 (ax_iinc 2 1 41) := ok_iinc (by decide) (by decide) dX7_define_69 rfl
theorem o_94_41 : ax_Ok 94 72 (ax_goto 22) := ok_goto dX7_define_72 (by decide)
theorem o_94_42 : ax_Ok 94 75 (ax_const 0 43) := ok_iconst (by decide) dX7_define_75 rfl
theorem o_94_43 : ax_Ok 94 76 (ax_istore 2 44) := ok_istore_n rfl (by decide) dX7_define_76 rfl
theorem o_94_44 : ax_Ok 94 77 (ax_iload 2 45) := ok_iload_n rfl dX7_define_77 rfl
theorem o_94_45 : ax_Ok 94 78 (ax_const 4 46) := ok_iconst (by decide) dX7_define_78 rfl
theorem o_94_46 : ax_Ok 94 79 (ax_icmp (fun x y => decide (y ≤ x)) 83 47) := ok_icmp_ge dX7_define_79 (by decide) rfl
theorem o_94_47 : ax_Ok 94 82 (ax_aload 0 48) := ok_aload_n rfl dX7_define_82 rfl
theorem o_94_48 : ax_Ok 94 83 (ax_get 7 13 49) := ok_get (C := RX7) (T := TX7) (N := 19) rfl in_X7 (by decide) wd_450 rfl dX7_define_83 rfl
theorem o_94_49 : ax_Ok 94 86 (ax_iload 2 50) := ok_iload_n rfl dX7_define_86 rfl
theorem o_94_50 : ax_Ok 94 87 (ax_aload 0 51) := ok_aload_n rfl dX7_define_87 rfl
theorem o_94_51 : ax_Ok 94 88 (ax_get 7 9 52) := ok_get (C := RX7) (T := TX7) (N := 19) rfl in_X7 (by decide) wd_446 rfl dX7_define_88 rfl
theorem o_94_52 : ax_Ok 94 91 (ax_iload 2 53) := ok_iload_n rfl dX7_define_91 rfl
theorem o_94_53 : ax_Ok 94 92 (ax_ald 0 54) := ok_iald dX7_define_92 rfl
theorem o_94_54 : ax_Ok 94 93 (ax_ast 0 55) := ok_iast dX7_define_93 rfl
theorem o_94_55 : ax_Ok 94 94 (ax_const 0 56) := ok_iconst (by decide) dX7_define_94 rfl
theorem o_94_56 : ax_Ok 94 95 (ax_istore 3 57) := ok_istore_n rfl (by decide) dX7_define_95 rfl
theorem o_94_57 : ax_Ok 94 96 (ax_iload 3 58) := ok_iload_n rfl dX7_define_96 rfl
theorem o_94_58 : ax_Ok 94 97 (ax_aload 0 59) := ok_aload_n rfl dX7_define_97 rfl
theorem o_94_59 : ax_Ok 94 98 (ax_get 7 9 60) := ok_get (C := RX7) (T := TX7) (N := 19) rfl in_X7 (by decide) wd_446 rfl dX7_define_98 rfl
theorem o_94_60 : ax_Ok 94 101 (ax_iload 2 61) := ok_iload_n rfl dX7_define_101 rfl
theorem o_94_61 : ax_Ok 94 102 (ax_ald 0 62) := ok_iald dX7_define_102 rfl
theorem o_94_62 : ax_Ok 94 103 (ax_icmp (fun x y => decide (y ≤ x)) 81 63) := ok_icmp_ge dX7_define_103 (by decide) rfl
theorem o_94_63 : ax_Ok 94 106 (ax_aload 0 64) := ok_aload_n rfl dX7_define_106 rfl
theorem o_94_64 : ax_Ok 94 107 (ax_get 7 12 65) := ok_get (C := RX7) (T := TX7) (N := 19) rfl in_X7 (by decide) wd_449 rfl dX7_define_107 rfl
theorem o_94_65 : ax_Ok 94 110 (ax_const 60 66) := ok_bipush (by decide) dX7_define_110 rfl
theorem o_94_66 : ax_Ok 94 112 (ax_iload 2 67) := ok_iload_n rfl dX7_define_112 rfl
theorem o_94_67 : ax_Ok 94 113 (ax_bin (fun x y => x * y) 68) := ok_imul dX7_define_113 rfl
theorem o_94_68 : ax_Ok 94 114 (ax_iload 3 69) := ok_iload_n rfl dX7_define_114 rfl
theorem o_94_69 : ax_Ok 94 115 (ax_bin (fun x y => x + y) 70) := ok_iadd dX7_define_115 rfl
theorem o_94_70 : ax_Ok 94 116 (ax_aload 0 71) := ok_aload_n rfl dX7_define_116 rfl
theorem o_94_71 : ax_Ok 94 117 (ax_get 7 8 72) := ok_get (C := RX7) (T := TX7) (N := 19) rfl in_X7 (by decide) wd_445 rfl dX7_define_117 rfl
theorem o_94_72 : ax_Ok 94 120 (ax_const 60 73) := ok_bipush (by decide) dX7_define_120 rfl
theorem o_94_73 : ax_Ok 94 122 (ax_iload 2 74) := ok_iload_n rfl dX7_define_122 rfl
theorem o_94_74 : ax_Ok 94 123 (ax_bin (fun x y => x * y) 75) := ok_imul dX7_define_123 rfl
theorem o_94_75 : ax_Ok 94 124 (ax_iload 3 76) := ok_iload_n rfl dX7_define_124 rfl
theorem o_94_76 : ax_Ok 94 125 (ax_bin (fun x y => x + y) 77) := ok_iadd dX7_define_125 rfl
theorem o_94_77 : ax_Ok 94 126 (ax_ald 1 78) := ok_cald dX7_define_126 rfl
theorem o_94_78 : ax_Ok 94 127 (ax_ast 1 79) := ok_cast dX7_define_127 rfl
theorem o_94_79 : ax_Ok 94 128 (ax_iinc 3 1 80) := ok_iinc (by decide) (by decide) dX7_define_128 rfl
theorem o_94_80 : ax_Ok 94 131 (ax_goto 57) := ok_goto dX7_define_131 (by decide)
theorem o_94_81 : ax_Ok 94 134 (ax_iinc 2 1 82) := ok_iinc (by decide) (by decide) dX7_define_134 rfl
theorem o_94_82 : ax_Ok 94 137 (ax_goto 44) := ok_goto dX7_define_137 (by decide)
theorem o_94_83 : ax_Ok 94 140 (ax_aload 0 84) := ok_aload_n rfl dX7_define_140 rfl
theorem o_94_84 : ax_Ok 94 141 (ax_const 1 85) := ok_iconst (by decide) dX7_define_141 rfl
theorem o_94_85 : ax_Ok 94 142 (ax_put 7 10 1 86) := ok_put (C := RX7) (T := TX7) (N := 19) rfl in_X7 tyX7 tyX7_ok nmX7 (by decide) wd_447 rfl rfl rfl dX7_define_142 rfl
theorem o_94_86 : ax_Ok 94 145 (ax_aload 0 87) := ok_aload_n rfl dX7_define_145 rfl
theorem o_94_87 : ax_Ok 94 146 (ax_const 0 88) := ok_iconst (by decide) dX7_define_146 rfl
theorem o_94_88 : ax_Ok 94 147 (ax_put 7 14 1 89) := ok_put (C := RX7) (T := TX7) (N := 19) rfl in_X7 tyX7 tyX7_ok nmX7 (by decide) wd_451 rfl rfl rfl dX7_define_147 rfl
theorem o_94_89 : ax_Ok 94 150 (ax_const (-1) 90) := ok_iconst (by decide) dX7_define_150 rfl
theorem o_94_90 : ax_Ok 94 151 (ax_ret 0) := ok_ret0 rfl dX7_define_151
theorem o_95_0 : ax_Ok 95 0 (ax_iload 0 1) := ok_iload_n rfl dX7_isNumber_0 rfl
theorem o_95_1 : ax_Ok 95 1 (ax_if (fun x => decide (x < 0)) 7 2) := ok_if_lt dX7_isNumber_1 (by decide) rfl
theorem o_95_2 : ax_Ok 95 4 (ax_iload 0 3) := ok_iload_n rfl dX7_isNumber_4 rfl
theorem o_95_3 : ax_Ok 95 5 (ax_const 3 4) := ok_iconst (by decide) dX7_isNumber_5 rfl
theorem o_95_4 : ax_Ok 95 6 (ax_icmp (fun x y => decide (y < x)) 7 5) := ok_icmp_gt dX7_isNumber_6 (by decide) rfl
theorem o_95_5 : ax_Ok 95 9 (ax_const 1 6) := ok_iconst (by decide) dX7_isNumber_9 rfl
theorem o_95_6 : ax_Ok 95 10 (ax_goto 8) := ok_goto dX7_isNumber_10 (by decide)
theorem o_95_7 : ax_Ok 95 13 (ax_const 0 8) := ok_iconst (by decide) dX7_isNumber_13 rfl
theorem o_95_8 : ax_Ok 95 14 (ax_ret 1) := ok_ret1 rfl dX7_isNumber_14
theorem o_96_0 : ax_Ok 96 0 (ax_aload 0 1) := ok_aload_n rfl dX7_messages_0 rfl
theorem o_96_1 : ax_Ok 96 1 (ax_get 7 10 2) := ok_get (C := RX7) (T := TX7) (N := 19) rfl in_X7 (by decide) wd_447 rfl dX7_messages_1 rfl
theorem o_96_2 : ax_Ok 96 4 (ax_if (fun x => decide (x = 0)) 6 3) := ok_if_eq dX7_messages_4 (by decide) rfl
theorem o_96_3 : ax_Ok 96 7 (ax_aload 0 4) := ok_aload_n rfl dX7_messages_7 rfl
theorem o_96_4 : ax_Ok 96 8 (ax_get 7 11 5) := ok_get (C := RX7) (T := TX7) (N := 19) rfl in_X7 (by decide) wd_448 rfl dX7_messages_8 rfl
theorem o_96_5 : ax_Ok 96 11 (ax_goto 7) := ok_goto dX7_messages_11 (by decide)
theorem o_96_6 : ax_Ok 96 14 (ax_const (-1) 7) := ok_iconst (by decide) dX7_messages_14 rfl
theorem o_96_7 : ax_Ok 96 15 (ax_ret 0) := ok_ret0 rfl dX7_messages_15
theorem o_97_0 : ax_Ok 97 0 (ax_aload 0 1) := ok_aload_n rfl dX7_length_0 rfl
theorem o_97_1 : ax_Ok 97 1 (ax_get 7 10 2) := ok_get (C := RX7) (T := TX7) (N := 19) rfl in_X7 (by decide) wd_447 rfl dX7_length_1 rfl
theorem o_97_2 : ax_Ok 97 4 (ax_if (fun x => decide (x = 0)) 11 3) := ok_if_eq dX7_length_4 (by decide) rfl
theorem o_97_3 : ax_Ok 97 7 (ax_iload 1 4) := ok_iload_n rfl dX7_length_7 rfl
theorem o_97_4 : ax_Ok 97 8 (ax_callS 95 1 5) := ok_callS wd_575 wd_576 wd_8 mo_95 dX7_length_8 rfl
theorem o_97_5 : ax_Ok 97 11 (ax_if (fun x => decide (x = 0)) 11 6) := ok_if_eq dX7_length_11 (by decide) rfl
theorem o_97_6 : ax_Ok 97 14 (ax_aload 0 7) := ok_aload_n rfl dX7_length_14 rfl
theorem o_97_7 : ax_Ok 97 15 (ax_get 7 13 8) := ok_get (C := RX7) (T := TX7) (N := 19) rfl in_X7 (by decide) wd_450 rfl dX7_length_15 rfl
theorem o_97_8 : ax_Ok 97 18 (ax_iload 1 9) := ok_iload_n rfl dX7_length_18 rfl
theorem o_97_9 : ax_Ok 97 19 (ax_ald 0 10) := ok_iald dX7_length_19 rfl
theorem o_97_10 : ax_Ok 97 20 (ax_goto 12) := ok_goto dX7_length_20 (by decide)
theorem o_97_11 : ax_Ok 97 23 (ax_const (-1) 12) := ok_iconst (by decide) dX7_length_23 rfl
theorem o_97_12 : ax_Ok 97 24 (ax_ret 0) := ok_ret0 rfl dX7_length_24
theorem o_98_0 : ax_Ok 98 0 (ax_aload 0 1) := ok_aload_n rfl dX7_charAt_0 rfl
theorem o_98_1 : ax_Ok 98 1 (ax_get 7 10 2) := ok_get (C := RX7) (T := TX7) (N := 19) rfl in_X7 (by decide) wd_447 rfl dX7_charAt_1 rfl
theorem o_98_2 : ax_Ok 98 4 (ax_if (fun x => decide (x = 0)) 23 3) := ok_if_eq dX7_charAt_4 (by decide) rfl
theorem o_98_3 : ax_Ok 98 7 (ax_iload 1 4) := ok_iload_n rfl dX7_charAt_7 rfl
theorem o_98_4 : ax_Ok 98 8 (ax_callS 95 1 5) := ok_callS wd_575 wd_576 wd_8 mo_95 dX7_charAt_8 rfl
theorem o_98_5 : ax_Ok 98 11 (ax_if (fun x => decide (x = 0)) 23 6) := ok_if_eq dX7_charAt_11 (by decide) rfl
theorem o_98_6 : ax_Ok 98 14 (ax_iload 2 7) := ok_iload_n rfl dX7_charAt_14 rfl
theorem o_98_7 : ax_Ok 98 15 (ax_if (fun x => decide (x < 0)) 23 8) := ok_if_lt dX7_charAt_15 (by decide) rfl
theorem o_98_8 : ax_Ok 98 18 (ax_iload 2 9) := ok_iload_n rfl dX7_charAt_18 rfl
