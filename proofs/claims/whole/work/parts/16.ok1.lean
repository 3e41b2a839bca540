theorem o_0_0 : ax_Ok 0 0 (ax_aload 0 1) := ok_aload_n rfl dX0_init_0 rfl
theorem o_0_1 : ax_Ok 0 1 (ax_obj 2) := ok_obj wd_36 wd_15 wd_obj dX0_init_1 rfl
theorem o_0_2 : ax_Ok 0 4 (ax_aload 0 3) := ok_aload_n rfl dX0_init_4 rfl
theorem o_0_3 : ax_Ok 0 5 (ax_const 0 4) := ok_iconst (by decide) dX0_init_5 rfl
theorem o_0_4 : ax_Ok 0 6 (ax_put 0 0 0 5) := ok_put (C := RX0) (T := TX0) (N := 2) rfl in_X0 tyX0 tyX0_ok nmX0 (by decide) wd_37 rfl rfl rfl dX0_init_6 rfl
theorem o_0_5 : ax_Ok 0 9 (ax_aload 0 6) := ok_aload_n rfl dX0_init_9 rfl
theorem o_0_6 : ax_Ok 0 10 (ax_const 0 7) := ok_iconst (by decide) dX0_init_10 rfl
theorem o_0_7 : ax_Ok 0 11 (ax_put 0 1 0 8) := ok_put (C := RX0) (T := TX0) (N := 2) rfl in_X0 tyX0 tyX0_ok nmX0 (by decide) wd_38 rfl rfl rfl dX0_init_11 rfl
theorem o_0_8 : ax_Ok 0 14 (ax_retv) := ok_retv rfl dX0_init_14
theorem o_1_0 : ax_Ok 1 0 (ax_aload 0 1) := ok_aload_n rfl dX0_faultOf_0 rfl
theorem o_1_1 : ax_Ok 1 1 (ax_const 0 2) := ok_iconst (by decide) dX0_faultOf_1 rfl
theorem o_1_2 : ax_Ok 1 2 (ax_put 0 0 0 3) := ok_put (C := RX0) (T := TX0) (N := 2) rfl in_X0 tyX0 tyX0_ok nmX0 (by decide) wd_37 rfl rfl rfl dX0_faultOf_2 rfl
theorem o_1_3 : ax_Ok 1 5 (ax_aload 0 4) := ok_aload_n rfl dX0_faultOf_5 rfl
theorem o_1_4 : ax_Ok 1 6 (ax_const 0 5) := ok_iconst (by decide) dX0_faultOf_6 rfl
theorem o_1_5 : ax_Ok 1 7 (ax_put 0 1 0 6) := ok_put (C := RX0) (T := TX0) (N := 2) rfl in_X0 tyX0 tyX0_ok nmX0 (by decide) wd_38 rfl rfl rfl dX0_faultOf_7 rfl
theorem o_1_6 : ax_Ok 1 10 (ax_const 0 7) := ok_iconst (by decide) dX0_faultOf_10 rfl
theorem o_1_7 : ax_Ok 1 11 (ax_istore 2 8) := ok_istore_n rfl (by decide) dX0_faultOf_11 rfl
theorem o_1_8 : ax_Ok 1 12 (ax_iload 2 9) := ok_iload_n rfl dX0_faultOf_12 rfl
theorem o_1_9 : ax_Ok 1 13 (ax_aload 1 10) := ok_aload_n rfl dX0_faultOf_13 rfl
theorem o_1_10 : ax_Ok 1 14 (ax_callV 5 38 0 11) := ok_callV (C := RX5) rfl rfl wd_169 wd_170 wd_171 wd_2 mo_38 (by decide) dX0_faultOf_14 rfl
theorem o_1_11 : ax_Ok 1 17 (ax_icmp (fun x y => decide (y ≤ x)) 27 12) := ok_icmp_ge dX0_faultOf_17 (by decide) rfl
theorem o_1_12 : ax_Ok 1 20 (ax_aload 0 13) := ok_aload_n rfl dX0_faultOf_20 rfl
theorem o_1_13 : ax_Ok 1 21 (ax_aload 0 14) := ok_aload_n rfl dX0_faultOf_21 rfl
theorem o_1_14 : ax_Ok 1 22 (ax_aload 1 15) := ok_aload_n rfl dX0_faultOf_22 rfl
theorem o_1_15 : ax_Ok 1 23 (ax_iload 2 16) := ok_iload_n rfl dX0_faultOf_23 rfl
theorem o_1_16 : ax_Ok 1 24 (ax_callV 5 39 1 17) := ok_callV (C := RX5) rfl rfl wd_173 wd_174 wd_175 wd_2 mo_39 (by decide) dX0_faultOf_24 rfl
theorem o_1_17 : ax_Ok 1 27 (ax_callV 0 2 1 18) := ok_callV (C := RX0) rfl rfl wd_177 wd_179 wp_1 wd_3 mo_2 (by decide) dX0_faultOf_27 rfl
theorem o_1_18 : ax_Ok 1 30 (ax_put 0 0 0 19) := ok_put (C := RX0) (T := TX0) (N := 2) rfl in_X0 tyX0 tyX0_ok nmX0 (by decide) wd_37 rfl rfl rfl dX0_faultOf_30 rfl
theorem o_1_19 : ax_Ok 1 33 (ax_aload 0 20) := ok_aload_n rfl dX0_faultOf_33 rfl
theorem o_1_20 : ax_Ok 1 34 (ax_get 0 0 21) := ok_get (C := RX0) (T := TX0) (N := 2) rfl in_X0 (by decide) wd_37 rfl dX0_faultOf_34 rfl
theorem o_1_21 : ax_Ok 1 37 (ax_const 7 22) := ok_bipush (by decide) dX0_faultOf_37 rfl
theorem o_1_22 : ax_Ok 1 39 (ax_icmp (fun x y => decide (¬ x = y)) 25 23) := ok_icmp_ne dX0_faultOf_39 (by decide) rfl
theorem o_1_23 : ax_Ok 1 42 (ax_iload 2 24) := ok_iload_n rfl dX0_faultOf_42 rfl
theorem o_1_24 : ax_Ok 1 43 (ax_ret 0) := ok_ret0 rfl dX0_faultOf_43
theorem o_1_25 : ax_Ok 1 44 (ax_iinc 2 1 26) := ok_iinc (by decide) (by decide) dX0_faultOf_44 rfl
theorem o_1_26 : ax_Ok 1 47 (ax_goto 8) := ok_goto dX0_faultOf_47 (by decide)
theorem o_1_27 : ax_Ok 1 50 (ax_aload 0 28) := ok_aload_n rfl dX0_faultOf_50 rfl
theorem o_1_28 : ax_Ok 1 51 (ax_get 0 0 29) := ok_get (C := RX0) (T := TX0) (N := 2) rfl in_X0 (by decide) wd_37 rfl dX0_faultOf_51 rfl
theorem o_1_29 : ax_Ok 1 54 (ax_const 6 30) := ok_bipush (by decide) dX0_faultOf_54 rfl
theorem o_1_30 : ax_Ok 1 56 (ax_icmp (fun x y => decide (¬ x = y)) 36 31) := ok_icmp_ne dX0_faultOf_56 (by decide) rfl
theorem o_1_31 : ax_Ok 1 59 (ax_aload 0 32) := ok_aload_n rfl dX0_faultOf_59 rfl
theorem o_1_32 : ax_Ok 1 60 (ax_get 0 1 33) := ok_get (C := RX0) (T := TX0) (N := 2) rfl in_X0 (by decide) wd_38 rfl dX0_faultOf_60 rfl
theorem o_1_33 : ax_Ok 1 63 (ax_if (fun x => decide (¬ x = 0)) 36 34) := ok_if_ne dX0_faultOf_63 (by decide) rfl
theorem o_1_34 : ax_Ok 1 66 (ax_const (-1) 35) := ok_iconst (by decide) dX0_faultOf_66 rfl
theorem o_1_35 : ax_Ok 1 67 (ax_goto 38) := ok_goto dX0_faultOf_67 (by decide)
theorem o_1_36 : ax_Ok 1 70 (ax_aload 1 37) := ok_aload_n rfl dX0_faultOf_70 rfl
theorem o_1_37 : ax_Ok 1 71 (ax_callV 5 38 0 38) := ok_callV (C := RX5) rfl rfl wd_169 wd_170 wd_171 wd_2 mo_38 (by decide) dX0_faultOf_71 rfl
theorem o_1_38 : ax_Ok 1 74 (ax_ret 0) := ok_ret0 rfl dX0_faultOf_74
theorem o_2_0 : ax_Ok 2 0 (ax_aload 0 1) := ok_aload_n rfl dX0_next_0 rfl
theorem o_2_1 : ax_Ok 2 1 (ax_get 0 0 2) := ok_get (C := RX0) (T := TX0) (N := 2) rfl in_X0 (by decide) wd_37 rfl dX0_next_1 rfl
theorem o_2_2 : ax_Ok 2 4 (ax_sw [(0, 3), (1, 7), (2, 14), (3, 21), (4, 25), (5, 32)] 39) := ax_swU (ts := [3, 7, 14, 21, 25, 32]) dX0_next_4 rfl rfl rfl (by decide) (by decide +kernel)
theorem o_2_3 : ax_Ok 2 44 (ax_aload 0 4) := ok_aload_n rfl dX0_next_44 rfl
theorem o_2_4 : ax_Ok 2 45 (ax_iload 1 5) := ok_iload_n rfl dX0_next_45 rfl
theorem o_2_5 : ax_Ok 2 46 (ax_callV 0 3 1 6) := ok_callV (C := RX0) rfl rfl wd_181 wd_183 wp_2 wd_3 mo_3 (by decide) dX0_next_46 rfl
theorem o_2_6 : ax_Ok 2 49 (ax_ret 0) := ok_ret0 rfl dX0_next_49
theorem o_2_7 : ax_Ok 2 50 (ax_iload 1 8) := ok_iload_n rfl dX0_next_50 rfl
theorem o_2_8 : ax_Ok 2 51 (ax_callS 74 1 9) := ok_callSN (host := "RoleParts") wn_185 wd_186 wd_1 mo_74 dX0_next_51 rfl
theorem o_2_9 : ax_Ok 2 54 (ax_if (fun x => decide (x = 0)) 12 10) := ok_if_eq dX0_next_54 (by decide) rfl
theorem o_2_10 : ax_Ok 2 57 (ax_const 5 11) := ok_iconst (by decide) dX0_next_57 rfl
theorem o_2_11 : ax_Ok 2 58 (ax_goto 13) := ok_goto dX0_next_58 (by decide)
theorem o_2_12 : ax_Ok 2 61 (ax_const 7 13) := ok_bipush (by decide) dX0_next_61 rfl
theorem o_2_13 : ax_Ok 2 63 (ax_ret 0) := ok_ret0 rfl dX0_next_63
theorem o_2_14 : ax_Ok 2 64 (ax_iload 1 15) := ok_iload_n rfl dX0_next_64 rfl
theorem o_2_15 : ax_Ok 2 65 (ax_callS 72 1 16) := ok_callSN (host := "RoleParts") wn_188 wd_189 wd_1 mo_72 dX0_next_65 rfl
theorem o_2_16 : ax_Ok 2 68 (ax_if (fun x => decide (x = 0)) 19 17) := ok_if_eq dX0_next_68 (by decide) rfl
theorem o_2_17 : ax_Ok 2 71 (ax_const 3 18) := ok_iconst (by decide) dX0_next_71 rfl
theorem o_2_18 : ax_Ok 2 72 (ax_goto 20) := ok_goto dX0_next_72 (by decide)
theorem o_2_19 : ax_Ok 2 75 (ax_const 7 20) := ok_bipush (by decide) dX0_next_75 rfl
theorem o_2_20 : ax_Ok 2 77 (ax_ret 0) := ok_ret0 rfl dX0_next_77
theorem o_2_21 : ax_Ok 2 78 (ax_aload 0 22) := ok_aload_n rfl dX0_next_78 rfl
theorem o_2_22 : ax_Ok 2 79 (ax_iload 1 23) := ok_iload_n rfl dX0_next_79 rfl
theorem o_2_23 : ax_Ok 2 80 (ax_callV 0 4 1 24) := ok_callV (C := RX0) rfl rfl wd_191 wd_193 wp_3 wd_3 mo_4 (by decide) dX0_next_80 rfl
theorem o_2_24 : ax_Ok 2 83 (ax_ret 0) := ok_ret0 rfl dX0_next_83
theorem o_2_25 : ax_Ok 2 84 (ax_iload 1 26) := ok_iload_n rfl dX0_next_84 rfl
theorem o_2_26 : ax_Ok 2 85 (ax_callS 73 1 27) := ok_callSN (host := "RoleParts") wn_195 wd_196 wd_1 mo_73 dX0_next_85 rfl
theorem o_2_27 : ax_Ok 2 88 (ax_if (fun x => decide (x = 0)) 30 28) := ok_if_eq dX0_next_88 (by decide) rfl
theorem o_2_28 : ax_Ok 2 91 (ax_const 5 29) := ok_iconst (by decide) dX0_next_91 rfl
theorem o_2_29 : ax_Ok 2 92 (ax_goto 31) := ok_goto dX0_next_92 (by decide)
theorem o_2_30 : ax_Ok 2 95 (ax_const 7 31) := ok_bipush (by decide) dX0_next_95 rfl
theorem o_2_31 : ax_Ok 2 97 (ax_ret 0) := ok_ret0 rfl dX0_next_97
theorem o_2_32 : ax_Ok 2 98 (ax_iload 1 33) := ok_iload_n rfl dX0_next_98 rfl
theorem o_2_33 : ax_Ok 2 99 (ax_const 46 34) := ok_bipush (by decide) dX0_next_99 rfl
theorem o_2_34 : ax_Ok 2 101 (ax_icmp (fun x y => decide (¬ x = y)) 37 35) := ok_icmp_ne dX0_next_101 (by decide) rfl
theorem o_2_35 : ax_Ok 2 104 (ax_const 0 36) := ok_iconst (by decide) dX0_next_104 rfl
theorem o_2_36 : ax_Ok 2 105 (ax_goto 38) := ok_goto dX0_next_105 (by decide)
theorem o_2_37 : ax_Ok 2 108 (ax_const 7 38) := ok_bipush (by decide) dX0_next_108 rfl
theorem o_2_38 : ax_Ok 2 110 (ax_ret 0) := ok_ret0 rfl dX0_next_110
theorem o_2_39 : ax_Ok 2 111 (ax_aload 0 40) := ok_aload_n rfl dX0_next_111 rfl
theorem o_2_40 : ax_Ok 2 112 (ax_iload 1 41) := ok_iload_n rfl dX0_next_112 rfl
theorem o_2_41 : ax_Ok 2 113 (ax_callV 0 5 1 42) := ok_callV (C := RX0) rfl rfl wd_198 wd_200 wp_4 wd_3 mo_5 (by decide) dX0_next_113 rfl
theorem o_2_42 : ax_Ok 2 116 (ax_ret 0) := ok_ret0 rfl dX0_next_116
theorem o_3_0 : ax_Ok 3 0 (ax_iload 1 1) := ok_iload_n rfl dX0_nextInProtocol_0 rfl
theorem o_3_1 : ax_Ok 3 1 (ax_const 101 2) := ok_bipush (by decide) dX0_nextInProtocol_1 rfl
theorem o_3_2 : ax_Ok 3 3 (ax_icmp (fun x y => decide (x = y)) 6 3) := ok_icmp_eq dX0_nextInProtocol_3 (by decide) rfl
theorem o_3_3 : ax_Ok 3 6 (ax_iload 1 4) := ok_iload_n rfl dX0_nextInProtocol_6 rfl
theorem o_3_4 : ax_Ok 3 7 (ax_callS 74 1 5) := ok_callSN (host := "RoleParts") wn_185 wd_186 wd_1 mo_74 dX0_nextInProtocol_7 rfl
theorem o_3_5 : ax_Ok 3 10 (ax_if (fun x => decide (x = 0)) 8 6) := ok_if_eq dX0_nextInProtocol_10 (by decide) rfl
theorem o_3_6 : ax_Ok 3 13 (ax_const 6 7) := ok_bipush (by decide) dX0_nextInProtocol_13 rfl
theorem o_3_7 : ax_Ok 3 15 (ax_ret 0) := ok_ret0 rfl dX0_nextInProtocol_15
theorem o_3_8 : ax_Ok 3 16 (ax_iload 1 9) := ok_iload_n rfl dX0_nextInProtocol_16 rfl
theorem o_3_9 : ax_Ok 3 17 (ax_const 109 10) := ok_bipush (by decide) dX0_nextInProtocol_17 rfl
theorem o_3_10 : ax_Ok 3 19 (ax_icmp (fun x y => decide (¬ x = y)) 13 11) := ok_icmp_ne dX0_nextInProtocol_19 (by decide) rfl
theorem o_3_11 : ax_Ok 3 22 (ax_const 1 12) := ok_iconst (by decide) dX0_nextInProtocol_22 rfl
theorem o_3_12 : ax_Ok 3 23 (ax_ret 0) := ok_ret0 rfl dX0_nextInProtocol_23
theorem o_3_13 : ax_Ok 3 24 (ax_iload 1 14) := ok_iload_n rfl dX0_nextInProtocol_24 rfl
theorem o_3_14 : ax_Ok 3 25 (ax_callS 72 1 15) := ok_callSN (host := "RoleParts") wn_188 wd_189 wd_1 mo_72 dX0_nextInProtocol_25 rfl
theorem o_3_15 : ax_Ok 3 28 (ax_if (fun x => decide (x = 0)) 18 16) := ok_if_eq dX0_nextInProtocol_28 (by decide) rfl
theorem o_3_16 : ax_Ok 3 31 (ax_const 2 17) := ok_iconst (by decide) dX0_nextInProtocol_31 rfl
theorem o_3_17 : ax_Ok 3 32 (ax_goto 19) := ok_goto dX0_nextInProtocol_32 (by decide)
theorem o_3_18 : ax_Ok 3 35 (ax_const 7 19) := ok_bipush (by decide) dX0_nextInProtocol_35 rfl
theorem o_3_19 : ax_Ok 3 37 (ax_ret 0) := ok_ret0 rfl dX0_nextInProtocol_37
theorem o_4_0 : ax_Ok 4 0 (ax_iload 1 1) := ok_iload_n rfl dX0_nextAtBrace_0 rfl
theorem o_4_1 : ax_Ok 4 1 (ax_const 123 2) := ok_bipush (by decide) dX0_nextAtBrace_1 rfl
theorem o_4_2 : ax_Ok 4 3 (ax_icmp (fun x y => decide (x = y)) 5 3) := ok_icmp_eq dX0_nextAtBrace_3 (by decide) rfl
theorem o_4_3 : ax_Ok 4 6 (ax_const 7 4) := ok_bipush (by decide) dX0_nextAtBrace_6 rfl
theorem o_4_4 : ax_Ok 4 8 (ax_ret 0) := ok_ret0 rfl dX0_nextAtBrace_8
theorem o_4_5 : ax_Ok 4 9 (ax_aload 0 6) := ok_aload_n rfl dX0_nextAtBrace_9 rfl
theorem o_4_6 : ax_Ok 4 10 (ax_dup 7) := ok_dup dX0_nextAtBrace_10 rfl
theorem o_4_7 : ax_Ok 4 11 (ax_get 0 1 8) := ok_get (C := RX0) (T := TX0) (N := 2) rfl in_X0 (by decide) wd_38 rfl dX0_nextAtBrace_11 rfl
theorem o_4_8 : ax_Ok 4 14 (ax_const 1 9) := ok_iconst (by decide) dX0_nextAtBrace_14 rfl
theorem o_4_9 : ax_Ok 4 15 (ax_bin (fun x y => x + y) 10) := ok_iadd dX0_nextAtBrace_15 rfl
theorem o_4_10 : ax_Ok 4 16 (ax_put 0 1 0 11) := ok_put (C := RX0) (T := TX0) (N := 2) rfl in_X0 tyX0 tyX0_ok nmX0 (by decide) wd_38 rfl rfl rfl dX0_nextAtBrace_16 rfl
theorem o_4_11 : ax_Ok 4 19 (ax_const 4 12) := ok_iconst (by decide) dX0_nextAtBrace_19 rfl
theorem o_4_12 : ax_Ok 4 20 (ax_ret 0) := ok_ret0 rfl dX0_nextAtBrace_20
theorem o_5_0 : ax_Ok 5 0 (ax_aload 0 1) := ok_aload_n rfl dX0_nextAfterProtocol_0 rfl
theorem o_5_1 : ax_Ok 5 1 (ax_get 0 1 2) := ok_get (C := RX0) (T := TX0) (N := 2) rfl in_X0 (by decide) wd_38 rfl dX0_nextAfterProtocol_1 rfl
theorem o_5_2 : ax_Ok 5 4 (ax_if (fun x => decide (¬ x = 0)) 5 3) := ok_if_ne dX0_nextAfterProtocol_4 (by decide) rfl
theorem o_5_3 : ax_Ok 5 7 (ax_const 7 4) := ok_bipush (by decide) dX0_nextAfterProtocol_7 rfl
theorem o_5_4 : ax_Ok 5 9 (ax_ret 0) := ok_ret0 rfl dX0_nextAfterProtocol_9
theorem o_5_5 : ax_Ok 5 10 (ax_iload 1 6) := ok_iload_n rfl dX0_nextAfterProtocol_10 rfl
theorem o_5_6 : ax_Ok 5 11 (ax_const 44 7) := ok_bipush (by decide) dX0_nextAfterProtocol_11 rfl
theorem o_5_7 : ax_Ok 5 13 (ax_icmp (fun x y => decide (¬ x = y)) 10 8) := ok_icmp_ne dX0_nextAfterProtocol_13 (by decide) rfl
theorem o_5_8 : ax_Ok 5 16 (ax_const 4 9) := ok_iconst (by decide) dX0_nextAfterProtocol_16 rfl
theorem o_5_9 : ax_Ok 5 17 (ax_ret 0) := ok_ret0 rfl dX0_nextAfterProtocol_17
theorem o_5_10 : ax_Ok 5 18 (ax_iload 1 11) := ok_iload_n rfl dX0_nextAfterProtocol_18 rfl
theorem o_5_11 : ax_Ok 5 19 (ax_const 125 12) := ok_bipush (by decide) dX0_nextAfterProtocol_19 rfl
theorem o_5_12 : ax_Ok 5 21 (ax_icmp (fun x y => decide (x = y)) 15 13) := ok_icmp_eq dX0_nextAfterProtocol_21 (by decide) rfl
theorem o_5_13 : ax_Ok 5 24 (ax_const 7 14) := ok_bipush (by decide) dX0_nextAfterProtocol_24 rfl
theorem o_5_14 : ax_Ok 5 26 (ax_ret 0) := ok_ret0 rfl dX0_nextAfterProtocol_26
theorem o_5_15 : ax_Ok 5 27 (ax_aload 0 16) := ok_aload_n rfl dX0_nextAfterProtocol_27 rfl
theorem o_5_16 : ax_Ok 5 28 (ax_dup 17) := ok_dup dX0_nextAfterProtocol_28 rfl
theorem o_5_17 : ax_Ok 5 29 (ax_get 0 1 18) := ok_get (C := RX0) (T := TX0) (N := 2) rfl in_X0 (by decide) wd_38 rfl dX0_nextAfterProtocol_29 rfl
theorem o_5_18 : ax_Ok 5 32 (ax_const 1 19) := ok_iconst (by decide) dX0_nextAfterProtocol_32 rfl
theorem o_5_19 : ax_Ok 5 33 (ax_bin (fun x y => x - y) 20) := ok_isub dX0_nextAfterProtocol_33 rfl
theorem o_5_20 : ax_Ok 5 34 (ax_put 0 1 0 21) := ok_put (C := RX0) (T := TX0) (N := 2) rfl in_X0 tyX0 tyX0_ok nmX0 (by decide) wd_38 rfl rfl rfl dX0_nextAfterProtocol_34 rfl
theorem o_5_21 : ax_Ok 5 37 (ax_const 6 22) := ok_bipush (by decide) dX0_nextAfterProtocol_37 rfl
theorem o_5_22 : ax_Ok 5 39 (ax_ret 0) := ok_ret0 rfl dX0_nextAfterProtocol_39
theorem o_6_0 : ax_Ok 6 0 (ax_aload 0 1) := ok_aload_n rfl dX1_init_0 rfl
theorem o_6_1 : ax_Ok 6 1 (ax_obj 2) := ok_obj wd_91 wd_15 wd_obj dX1_init_1 rfl
theorem o_6_2 : ax_Ok 6 4 (ax_aload 0 3) := ok_aload_n rfl dX1_init_4 rfl
theorem o_6_3 : ax_Ok 6 5 (ax_const 0 4) := ok_iconst (by decide) dX1_init_5 rfl
theorem o_6_4 : ax_Ok 6 6 (ax_put 1 3 0 5) := ok_put (C := RX1) (T := TX1) (N := 4) rfl in_X1 tyX1 tyX1_ok nmX1 (by decide) wd_95 rfl rfl rfl dX1_init_6 rfl
theorem o_6_5 : ax_Ok 6 9 (ax_aload 0 6) := ok_aload_n rfl dX1_init_9 rfl
theorem o_6_6 : ax_Ok 6 10 (ax_aload 1 7) := ok_aload_n rfl dX1_init_10 rfl
theorem o_6_7 : ax_Ok 6 11 (ax_put 1 0 3 8) := ok_putF (C := RX1) (T := TX1) (N := 4) rfl in_X1 tyX1 tyX1_ok nmX1 (by decide) wd_92 rfl rfl rfl rfl rfl dX1_init_11 rfl
theorem o_6_8 : ax_Ok 6 14 (ax_aload 0 9) := ok_aload_n rfl dX1_init_14 rfl
theorem o_6_9 : ax_Ok 6 15 (ax_iload 2 10) := ok_iload_n rfl dX1_init_15 rfl
theorem o_6_10 : ax_Ok 6 16 (ax_put 1 1 2 11) := ok_putF (C := RX1) (T := TX1) (N := 4) rfl in_X1 tyX1 tyX1_ok nmX1 (by decide) wd_93 rfl rfl rfl rfl rfl dX1_init_16 rfl
theorem o_6_11 : ax_Ok 6 19 (ax_aload 0 12) := ok_aload_n rfl dX1_init_19 rfl
theorem o_6_12 : ax_Ok 6 20 (ax_aload 3 13) := ok_aload_n rfl dX1_init_20 rfl
theorem o_6_13 : ax_Ok 6 21 (ax_put 1 2 3 14) := ok_putF (C := RX1) (T := TX1) (N := 4) rfl in_X1 tyX1 tyX1_ok nmX1 (by decide) wd_94 rfl rfl rfl rfl rfl dX1_init_21 rfl
theorem o_6_14 : ax_Ok 6 24 (ax_retv) := ok_retv rfl dX1_init_24
theorem o_7_0 : ax_Ok 7 0 (ax_aload 0 1) := ok_aload_n rfl dX1_writePart_0 rfl
theorem o_7_1 : ax_Ok 7 1 (ax_const 0 2) := ok_iconst (by decide) dX1_writePart_1 rfl
theorem o_7_2 : ax_Ok 7 2 (ax_put 1 3 0 3) := ok_put (C := RX1) (T := TX1) (N := 4) rfl in_X1 tyX1 tyX1_ok nmX1 (by decide) wd_95 rfl rfl rfl dX1_writePart_2 rfl
theorem o_7_3 : ax_Ok 7 5 (ax_aload 0 4) := ok_aload_n rfl dX1_writePart_5 rfl
theorem o_7_4 : ax_Ok 7 6 (ax_get 1 2 5) := ok_get (C := RX1) (T := TX1) (N := 4) rfl in_X1 (by decide) wd_94 rfl dX1_writePart_6 rfl
theorem o_7_5 : ax_Ok 7 9 (ax_const 0 6) := ok_iconst (by decide) dX1_writePart_9 rfl
theorem o_7_6 : ax_Ok 7 10 (ax_callV 5 42 1 7) := ok_callV (C := RX5) rfl rfl wd_246 wd_247 wd_248 wd_2 mo_42 (by decide) dX1_writePart_10 rfl
theorem o_7_7 : ax_Ok 7 13 (ax_aload 0 8) := ok_aload_n rfl dX1_writePart_13 rfl
theorem o_7_8 : ax_Ok 7 14 (ax_const 0 9) := ok_iconst (by decide) dX1_writePart_14 rfl
theorem o_7_9 : ax_Ok 7 15 (ax_callV 1 8 1 10) := ok_callV (C := RX1) rfl rfl wd_250 wd_252 wp_12 wd_6 mo_8 (by decide) dX1_writePart_15 rfl
theorem o_7_10 : ax_Ok 7 18 (ax_ret 1) := ok_ret1 rfl dX1_writePart_18
theorem o_8_0 : ax_Ok 8 0 (ax_iload 1 1) := ok_iload_n rfl dX1_writeProtocol_0 rfl
theorem o_8_1 : ax_Ok 8 1 (ax_const 40 2) := ok_bipush (by decide) dX1_writeProtocol_1 rfl
theorem o_8_2 : ax_Ok 8 3 (ax_icmp (fun x y => decide (x ≤ y)) 5 3) := ok_icmp_le dX1_writeProtocol_3 (by decide) rfl
theorem o_8_3 : ax_Ok 8 6 (ax_const 0 4) := ok_iconst (by decide) dX1_writeProtocol_6 rfl
theorem o_8_4 : ax_Ok 8 7 (ax_ret 1) := ok_ret1 rfl dX1_writeProtocol_7
theorem o_8_5 : ax_Ok 8 8 (ax_aload 0 6) := ok_aload_n rfl dX1_writeProtocol_8 rfl
theorem o_8_6 : ax_Ok 8 9 (ax_get 1 0 7) := ok_get (C := RX1) (T := TX1) (N := 4) rfl in_X1 (by decide) wd_92 rfl dX1_writeProtocol_9 rfl
theorem o_8_7 : ax_Ok 8 12 (ax_aload 0 8) := ok_aload_n rfl dX1_writeProtocol_12 rfl
theorem o_8_8 : ax_Ok 8 13 (ax_get 1 3 9) := ok_get (C := RX1) (T := TX1) (N := 4) rfl in_X1 (by decide) wd_95 rfl dX1_writeProtocol_13 rfl
theorem o_8_9 : ax_Ok 8 16 (ax_callV 5 39 1 10) := ok_callV (C := RX5) rfl rfl wd_254 wd_174 wd_175 wd_2 mo_39 (by decide) dX1_writeProtocol_16 rfl
theorem o_8_10 : ax_Ok 8 19 (ax_istore 2 11) := ok_istore_n rfl (by decide) dX1_writeProtocol_19 rfl
theorem o_8_11 : ax_Ok 8 20 (ax_iload 2 12) := ok_iload_n rfl dX1_writeProtocol_20 rfl
theorem o_8_12 : ax_Ok 8 21 (ax_const 109 13) := ok_bipush (by decide) dX1_writeProtocol_21 rfl
theorem o_8_13 : ax_Ok 8 23 (ax_icmp (fun x y => decide (¬ x = y)) 18 14) := ok_icmp_ne dX1_writeProtocol_23 (by decide) rfl
theorem o_8_14 : ax_Ok 8 26 (ax_aload 0 15) := ok_aload_n rfl dX1_writeProtocol_26 rfl
theorem o_8_15 : ax_Ok 8 27 (ax_iload 1 16) := ok_iload_n rfl dX1_writeProtocol_27 rfl
theorem o_8_16 : ax_Ok 8 28 (ax_callV 1 9 1 17) := ok_callV (C := RX1) rfl rfl wd_255 wd_257 wp_13 wd_6 mo_9 (by decide) dX1_writeProtocol_28 rfl
theorem o_8_17 : ax_Ok 8 31 (ax_ret 1) := ok_ret1 rfl dX1_writeProtocol_31
theorem o_8_18 : ax_Ok 8 32 (ax_iload 2 19) := ok_iload_n rfl dX1_writeProtocol_32 rfl
theorem o_8_19 : ax_Ok 8 33 (ax_callS 72 1 20) := ok_callSN (host := "RoleParts") wn_270 wd_189 wd_1 mo_72 dX1_writeProtocol_33 rfl
theorem o_8_20 : ax_Ok 8 36 (ax_if (fun x => decide (x = 0)) 25 21) := ok_if_eq dX1_writeProtocol_36 (by decide) rfl
theorem o_8_21 : ax_Ok 8 39 (ax_aload 0 22) := ok_aload_n rfl dX1_writeProtocol_39 rfl
theorem o_8_22 : ax_Ok 8 40 (ax_iload 1 23) := ok_iload_n rfl dX1_writeProtocol_40 rfl
theorem o_8_23 : ax_Ok 8 41 (ax_callV 1 11 1 24) := ok_callV (C := RX1) rfl rfl wd_271 wd_273 wp_15 wd_6 mo_11 (by decide) dX1_writeProtocol_41 rfl
theorem o_8_24 : ax_Ok 8 44 (ax_ret 1) := ok_ret1 rfl dX1_writeProtocol_44
theorem o_8_25 : ax_Ok 8 45 (ax_aload 0 26) := ok_aload_n rfl dX1_writeProtocol_45 rfl
theorem o_8_26 : ax_Ok 8 46 (ax_dup 27) := ok_dup dX1_writeProtocol_46 rfl
theorem o_8_27 : ax_Ok 8 47 (ax_get 1 3 28) := ok_get (C := RX1) (T := TX1) (N := 4) rfl in_X1 (by decide) wd_95 rfl dX1_writeProtocol_47 rfl
theorem o_8_28 : ax_Ok 8 50 (ax_const 1 29) := ok_iconst (by decide) dX1_writeProtocol_50 rfl
theorem o_8_29 : ax_Ok 8 51 (ax_bin (fun x y => x + y) 30) := ok_iadd dX1_writeProtocol_51 rfl
theorem o_8_30 : ax_Ok 8 52 (ax_put 1 3 0 31) := ok_put (C := RX1) (T := TX1) (N := 4) rfl in_X1 tyX1 tyX1_ok nmX1 (by decide) wd_95 rfl rfl rfl dX1_writeProtocol_52 rfl
theorem o_8_31 : ax_Ok 8 55 (ax_aload 0 32) := ok_aload_n rfl dX1_writeProtocol_55 rfl
theorem o_8_32 : ax_Ok 8 56 (ax_get 1 2 33) := ok_get (C := RX1) (T := TX1) (N := 4) rfl in_X1 (by decide) wd_94 rfl dX1_writeProtocol_56 rfl
theorem o_8_33 : ax_Ok 8 59 (ax_iload 2 34) := ok_iload_n rfl dX1_writeProtocol_59 rfl
theorem o_8_34 : ax_Ok 8 60 (ax_callV 5 40 1 35) := ok_callV (C := RX5) rfl rfl wd_264 wd_150 wd_151 wd_2 mo_40 (by decide) dX1_writeProtocol_60 rfl
theorem o_8_35 : ax_Ok 8 63 (ax_ret 1) := ok_ret1 rfl dX1_writeProtocol_63
theorem o_9_0 : ax_Ok 9 0 (ax_aload 0 1) := ok_aload_n rfl dX1_writeLoop_0 rfl
theorem o_9_1 : ax_Ok 9 1 (ax_get 1 0 2) := ok_get (C := RX1) (T := TX1) (N := 4) rfl in_X1 (by decide) wd_92 rfl dX1_writeLoop_1 rfl
theorem o_9_2 : ax_Ok 9 4 (ax_aload 0 3) := ok_aload_n rfl dX1_writeLoop_4 rfl
theorem o_9_3 : ax_Ok 9 5 (ax_get 1 3 4) := ok_get (C := RX1) (T := TX1) (N := 4) rfl in_X1 (by decide) wd_95 rfl dX1_writeLoop_5 rfl
theorem o_9_4 : ax_Ok 9 8 (ax_const 1 5) := ok_iconst (by decide) dX1_writeLoop_8 rfl
theorem o_9_5 : ax_Ok 9 9 (ax_bin (fun x y => x + y) 6) := ok_iadd dX1_writeLoop_9 rfl
theorem o_9_6 : ax_Ok 9 10 (ax_callV 5 39 1 7) := ok_callV (C := RX5) rfl rfl wd_254 wd_174 wd_175 wd_2 mo_39 (by decide) dX1_writeLoop_10 rfl
theorem o_9_7 : ax_Ok 9 13 (ax_istore 2 8) := ok_istore_n rfl (by decide) dX1_writeLoop_13 rfl
theorem o_9_8 : ax_Ok 9 14 (ax_aload 0 9) := ok_aload_n rfl dX1_writeLoop_14 rfl
theorem o_9_9 : ax_Ok 9 15 (ax_get 1 2 10) := ok_get (C := RX1) (T := TX1) (N := 4) rfl in_X1 (by decide) wd_94 rfl dX1_writeLoop_15 rfl
theorem o_9_10 : ax_Ok 9 18 (ax_callV 5 38 0 11) := ok_callV (C := RX5) rfl rfl wd_259 wd_170 wd_171 wd_2 mo_38 (by decide) dX1_writeLoop_18 rfl
theorem o_9_11 : ax_Ok 9 21 (ax_istore 3 12) := ok_istore_n rfl (by decide) dX1_writeLoop_21 rfl
theorem o_9_12 : ax_Ok 9 22 (ax_aload 0 13) := ok_aload_n rfl dX1_writeLoop_22 rfl
theorem o_9_13 : ax_Ok 9 23 (ax_dup 14) := ok_dup dX1_writeLoop_23 rfl
theorem o_9_14 : ax_Ok 9 24 (ax_get 1 3 15) := ok_get (C := RX1) (T := TX1) (N := 4) rfl in_X1 (by decide) wd_95 rfl dX1_writeLoop_24 rfl
theorem o_9_15 : ax_Ok 9 27 (ax_const 3 16) := ok_iconst (by decide) dX1_writeLoop_27 rfl
theorem o_9_16 : ax_Ok 9 28 (ax_bin (fun x y => x + y) 17) := ok_iadd dX1_writeLoop_28 rfl
theorem o_9_17 : ax_Ok 9 29 (ax_put 1 3 0 18) := ok_put (C := RX1) (T := TX1) (N := 4) rfl in_X1 tyX1 tyX1_ok nmX1 (by decide) wd_95 rfl rfl rfl dX1_writeLoop_29 rfl
theorem o_9_18 : ax_Ok 9 32 (ax_aload 0 19) := ok_aload_n rfl dX1_writeLoop_32 rfl
theorem o_9_19 : ax_Ok 9 33 (ax_iload 1 20) := ok_iload_n rfl dX1_writeLoop_33 rfl
theorem o_9_20 : ax_Ok 9 34 (ax_const 1 21) := ok_iconst (by decide) dX1_writeLoop_34 rfl
theorem o_9_21 : ax_Ok 9 35 (ax_bin (fun x y => x + y) 22) := ok_iadd dX1_writeLoop_35 rfl
theorem o_9_22 : ax_Ok 9 36 (ax_callV 1 8 1 23) := ok_callV (C := RX1) rfl rfl wd_250 wd_252 wp_12 wd_6 mo_8 (by decide) dX1_writeLoop_36 rfl
theorem o_9_23 : ax_Ok 9 39 (ax_if (fun x => decide (x = 0)) 31 24) := ok_if_eq dX1_writeLoop_39 (by decide) rfl
theorem o_9_24 : ax_Ok 9 42 (ax_aload 0 25) := ok_aload_n rfl dX1_writeLoop_42 rfl
theorem o_9_25 : ax_Ok 9 43 (ax_iload 3 26) := ok_iload_n rfl dX1_writeLoop_43 rfl
theorem o_9_26 : ax_Ok 9 44 (ax_iload 2 27) := ok_iload_n rfl dX1_writeLoop_44 rfl
theorem o_9_27 : ax_Ok 9 45 (ax_callV 1 10 2 28) := ok_callV (C := RX1) rfl rfl wd_260 wd_262 wp_14 wd_6 mo_10 (by decide) dX1_writeLoop_45 rfl
theorem o_9_28 : ax_Ok 9 48 (ax_if (fun x => decide (x = 0)) 31 29) := ok_if_eq dX1_writeLoop_48 (by decide) rfl
theorem o_9_29 : ax_Ok 9 51 (ax_const 1 30) := ok_iconst (by decide) dX1_writeLoop_51 rfl
theorem o_9_30 : ax_Ok 9 52 (ax_goto 32) := ok_goto dX1_writeLoop_52 (by decide)
theorem o_9_31 : ax_Ok 9 55 (ax_const 0 32) := ok_iconst (by decide) dX1_writeLoop_55 rfl
theorem o_9_32 : ax_Ok 9 56 (ax_ret 1) := ok_ret1 rfl dX1_writeLoop_56
theorem o_10_0 : ax_Ok 10 0 (ax_aload 0 1) := ok_aload_n rfl dX1_closeLoop_0 rfl
theorem o_10_1 : ax_Ok 10 1 (ax_get 1 2 2) := ok_get (C := RX1) (T := TX1) (N := 4) rfl in_X1 (by decide) wd_94 rfl dX1_closeLoop_1 rfl
theorem o_10_2 : ax_Ok 10 4 (ax_callV 5 38 0 3) := ok_callV (C := RX5) rfl rfl wd_259 wd_170 wd_171 wd_2 mo_38 (by decide) dX1_closeLoop_4 rfl
theorem o_10_3 : ax_Ok 10 7 (ax_iload 1 4) := ok_iload_n rfl dX1_closeLoop_7 rfl
theorem o_10_4 : ax_Ok 10 8 (ax_const 1 5) := ok_iconst (by decide) dX1_closeLoop_8 rfl
theorem o_10_5 : ax_Ok 10 9 (ax_bin (fun x y => x + y) 6) := ok_iadd dX1_closeLoop_9 rfl
theorem o_10_6 : ax_Ok 10 10 (ax_icmp (fun x y => decide (¬ x = y)) 22 7) := ok_icmp_ne dX1_closeLoop_10 (by decide) rfl
theorem o_10_7 : ax_Ok 10 13 (ax_aload 0 8) := ok_aload_n rfl dX1_closeLoop_13 rfl
theorem o_10_8 : ax_Ok 10 14 (ax_get 1 2 9) := ok_get (C := RX1) (T := TX1) (N := 4) rfl in_X1 (by decide) wd_94 rfl dX1_closeLoop_14 rfl
theorem o_10_9 : ax_Ok 10 17 (ax_iload 1 10) := ok_iload_n rfl dX1_closeLoop_17 rfl
theorem o_10_10 : ax_Ok 10 18 (ax_callV 5 39 1 11) := ok_callV (C := RX5) rfl rfl wd_254 wd_174 wd_175 wd_2 mo_39 (by decide) dX1_closeLoop_18 rfl
theorem o_10_11 : ax_Ok 10 21 (ax_iload 2 12) := ok_iload_n rfl dX1_closeLoop_21 rfl
theorem o_10_12 : ax_Ok 10 22 (ax_icmp (fun x y => decide (¬ x = y)) 22 13) := ok_icmp_ne dX1_closeLoop_22 (by decide) rfl
theorem o_10_13 : ax_Ok 10 25 (ax_aload 0 14) := ok_aload_n rfl dX1_closeLoop_25 rfl
theorem o_10_14 : ax_Ok 10 26 (ax_get 1 2 15) := ok_get (C := RX1) (T := TX1) (N := 4) rfl in_X1 (by decide) wd_94 rfl dX1_closeLoop_26 rfl
theorem o_10_15 : ax_Ok 10 29 (ax_iload 1 16) := ok_iload_n rfl dX1_closeLoop_29 rfl
theorem o_10_16 : ax_Ok 10 30 (ax_callV 5 42 1 17) := ok_callV (C := RX5) rfl rfl wd_246 wd_247 wd_248 wd_2 mo_42 (by decide) dX1_closeLoop_30 rfl
theorem o_10_17 : ax_Ok 10 33 (ax_aload 0 18) := ok_aload_n rfl dX1_closeLoop_33 rfl
theorem o_10_18 : ax_Ok 10 34 (ax_get 1 2 19) := ok_get (C := RX1) (T := TX1) (N := 4) rfl in_X1 (by decide) wd_94 rfl dX1_closeLoop_34 rfl
theorem o_10_19 : ax_Ok 10 37 (ax_const 101 20) := ok_bipush (by decide) dX1_closeLoop_37 rfl
theorem o_10_20 : ax_Ok 10 39 (ax_callV 5 40 1 21) := ok_callV (C := RX5) rfl rfl wd_264 wd_150 wd_151 wd_2 mo_40 (by decide) dX1_closeLoop_39 rfl
theorem o_10_21 : ax_Ok 10 42 (ax_ret 1) := ok_ret1 rfl dX1_closeLoop_42
theorem o_10_22 : ax_Ok 10 43 (ax_aload 0 23) := ok_aload_n rfl dX1_closeLoop_43 rfl
theorem o_10_23 : ax_Ok 10 44 (ax_get 1 2 24) := ok_get (C := RX1) (T := TX1) (N := 4) rfl in_X1 (by decide) wd_94 rfl dX1_closeLoop_44 rfl
theorem o_10_24 : ax_Ok 10 47 (ax_iload 1 25) := ok_iload_n rfl dX1_closeLoop_47 rfl
theorem o_10_25 : ax_Ok 10 48 (ax_iload 2 26) := ok_iload_n rfl dX1_closeLoop_48 rfl
theorem o_10_26 : ax_Ok 10 49 (ax_callV 5 44 2 27) := ok_callV (C := RX5) rfl rfl wd_265 wd_266 wd_267 wd_2 mo_44 (by decide) dX1_closeLoop_49 rfl
theorem o_10_27 : ax_Ok 10 52 (ax_if (fun x => decide (¬ x = 0)) 30 28) := ok_if_ne dX1_closeLoop_52 (by decide) rfl
theorem o_10_28 : ax_Ok 10 55 (ax_const 1 29) := ok_iconst (by decide) dX1_closeLoop_55 rfl
theorem o_10_29 : ax_Ok 10 56 (ax_ret 1) := ok_ret1 rfl dX1_closeLoop_56
theorem o_10_30 : ax_Ok 10 57 (ax_aload 0 31) := ok_aload_n rfl dX1_closeLoop_57 rfl
theorem o_10_31 : ax_Ok 10 58 (ax_get 1 2 32) := ok_get (C := RX1) (T := TX1) (N := 4) rfl in_X1 (by decide) wd_94 rfl dX1_closeLoop_58 rfl
theorem o_10_32 : ax_Ok 10 61 (ax_iload 1 33) := ok_iload_n rfl dX1_closeLoop_61 rfl
theorem o_10_33 : ax_Ok 10 62 (ax_const 46 34) := ok_bipush (by decide) dX1_closeLoop_62 rfl
theorem o_10_34 : ax_Ok 10 64 (ax_callV 5 41 2 35) := ok_callV (C := RX5) rfl rfl wd_269 wd_154 wd_155 wd_2 mo_41 (by decide) dX1_closeLoop_64 rfl
theorem o_10_35 : ax_Ok 10 67 (ax_if (fun x => decide (x = 0)) 50 36) := ok_if_eq dX1_closeLoop_67 (by decide) rfl
theorem o_10_36 : ax_Ok 10 70 (ax_aload 0 37) := ok_aload_n rfl dX1_closeLoop_70 rfl
theorem o_10_37 : ax_Ok 10 71 (ax_get 1 2 38) := ok_get (C := RX1) (T := TX1) (N := 4) rfl in_X1 (by decide) wd_94 rfl dX1_closeLoop_71 rfl
theorem o_10_38 : ax_Ok 10 74 (ax_iload 1 39) := ok_iload_n rfl dX1_closeLoop_74 rfl
theorem o_10_39 : ax_Ok 10 75 (ax_iload 2 40) := ok_iload_n rfl dX1_closeLoop_75 rfl
theorem o_10_40 : ax_Ok 10 76 (ax_callV 5 41 2 41) := ok_callV (C := RX5) rfl rfl wd_269 wd_154 wd_155 wd_2 mo_41 (by decide) dX1_closeLoop_76 rfl
theorem o_10_41 : ax_Ok 10 79 (ax_if (fun x => decide (x = 0)) 50 42) := ok_if_eq dX1_closeLoop_79 (by decide) rfl
theorem o_10_42 : ax_Ok 10 82 (ax_aload 0 43) := ok_aload_n rfl dX1_closeLoop_82 rfl
theorem o_10_43 : ax_Ok 10 83 (ax_get 1 2 44) := ok_get (C := RX1) (T := TX1) (N := 4) rfl in_X1 (by decide) wd_94 rfl dX1_closeLoop_83 rfl
theorem o_10_44 : ax_Ok 10 86 (ax_iload 1 45) := ok_iload_n rfl dX1_closeLoop_86 rfl
theorem o_10_45 : ax_Ok 10 87 (ax_const 109 46) := ok_bipush (by decide) dX1_closeLoop_87 rfl
theorem o_10_46 : ax_Ok 10 89 (ax_callV 5 41 2 47) := ok_callV (C := RX5) rfl rfl wd_269 wd_154 wd_155 wd_2 mo_41 (by decide) dX1_closeLoop_89 rfl
theorem o_10_47 : ax_Ok 10 92 (ax_if (fun x => decide (x = 0)) 50 48) := ok_if_eq dX1_closeLoop_92 (by decide) rfl
theorem o_10_48 : ax_Ok 10 95 (ax_const 1 49) := ok_iconst (by decide) dX1_closeLoop_95 rfl
theorem o_10_49 : ax_Ok 10 96 (ax_goto 51) := ok_goto dX1_closeLoop_96 (by decide)
theorem o_10_50 : ax_Ok 10 99 (ax_const 0 51) := ok_iconst (by decide) dX1_closeLoop_99 rfl
theorem o_10_51 : ax_Ok 10 100 (ax_ret 1) := ok_ret1 rfl dX1_closeLoop_100
theorem o_11_0 : ax_Ok 11 0 (ax_aload 0 1) := ok_aload_n rfl dX1_writeMessage_0 rfl
theorem o_11_1 : ax_Ok 11 1 (ax_get 1 0 2) := ok_get (C := RX1) (T := TX1) (N := 4) rfl in_X1 (by decide) wd_92 rfl dX1_writeMessage_1 rfl
theorem o_11_2 : ax_Ok 11 4 (ax_aload 0 3) := ok_aload_n rfl dX1_writeMessage_4 rfl
theorem o_11_3 : ax_Ok 11 5 (ax_get 1 3 4) := ok_get (C := RX1) (T := TX1) (N := 4) rfl in_X1 (by decide) wd_95 rfl dX1_writeMessage_5 rfl
theorem o_11_4 : ax_Ok 11 8 (ax_callV 5 39 1 5) := ok_callV (C := RX5) rfl rfl wd_254 wd_174 wd_175 wd_2 mo_39 (by decide) dX1_writeMessage_8 rfl
theorem o_11_5 : ax_Ok 11 11 (ax_istore 2 6) := ok_istore_n rfl (by decide) dX1_writeMessage_11 rfl
theorem o_11_6 : ax_Ok 11 12 (ax_aload 0 7) := ok_aload_n rfl dX1_writeMessage_12 rfl
theorem o_11_7 : ax_Ok 11 13 (ax_get 1 0 8) := ok_get (C := RX1) (T := TX1) (N := 4) rfl in_X1 (by decide) wd_92 rfl dX1_writeMessage_13 rfl
theorem o_11_8 : ax_Ok 11 16 (ax_aload 0 9) := ok_aload_n rfl dX1_writeMessage_16 rfl
theorem o_11_9 : ax_Ok 11 17 (ax_get 1 3 10) := ok_get (C := RX1) (T := TX1) (N := 4) rfl in_X1 (by decide) wd_95 rfl dX1_writeMessage_17 rfl
theorem o_11_10 : ax_Ok 11 20 (ax_const 1 11) := ok_iconst (by decide) dX1_writeMessage_20 rfl
theorem o_11_11 : ax_Ok 11 21 (ax_bin (fun x y => x + y) 12) := ok_iadd dX1_writeMessage_21 rfl
theorem o_11_12 : ax_Ok 11 22 (ax_callV 5 39 1 13) := ok_callV (C := RX5) rfl rfl wd_254 wd_174 wd_175 wd_2 mo_39 (by decide) dX1_writeMessage_22 rfl
theorem o_11_13 : ax_Ok 11 25 (ax_istore 3 14) := ok_istore_n rfl (by decide) dX1_writeMessage_25 rfl
theorem o_11_14 : ax_Ok 11 26 (ax_aload 0 15) := ok_aload_n rfl dX1_writeMessage_26 rfl
theorem o_11_15 : ax_Ok 11 27 (ax_dup 16) := ok_dup dX1_writeMessage_27 rfl
theorem o_11_16 : ax_Ok 11 28 (ax_get 1 3 17) := ok_get (C := RX1) (T := TX1) (N := 4) rfl in_X1 (by decide) wd_95 rfl dX1_writeMessage_28 rfl
theorem o_11_17 : ax_Ok 11 31 (ax_const 2 18) := ok_iconst (by decide) dX1_writeMessage_31 rfl
theorem o_11_18 : ax_Ok 11 32 (ax_bin (fun x y => x + y) 19) := ok_iadd dX1_writeMessage_32 rfl
theorem o_11_19 : ax_Ok 11 33 (ax_put 1 3 0 20) := ok_put (C := RX1) (T := TX1) (N := 4) rfl in_X1 tyX1 tyX1_ok nmX1 (by decide) wd_95 rfl rfl rfl dX1_writeMessage_33 rfl
theorem o_11_20 : ax_Ok 11 36 (ax_aload 0 21) := ok_aload_n rfl dX1_writeMessage_36 rfl
theorem o_11_21 : ax_Ok 11 37 (ax_get 1 1 22) := ok_get (C := RX1) (T := TX1) (N := 4) rfl in_X1 (by decide) wd_93 rfl dX1_writeMessage_37 rfl
theorem o_11_22 : ax_Ok 11 40 (ax_iload 2 23) := ok_iload_n rfl dX1_writeMessage_40 rfl
theorem o_11_23 : ax_Ok 11 41 (ax_icmp (fun x y => decide (¬ x = y)) 42 24) := ok_icmp_ne dX1_writeMessage_41 (by decide) rfl
theorem o_11_24 : ax_Ok 11 44 (ax_aload 0 25) := ok_aload_n rfl dX1_writeMessage_44 rfl
theorem o_11_25 : ax_Ok 11 45 (ax_get 1 2 26) := ok_get (C := RX1) (T := TX1) (N := 4) rfl in_X1 (by decide) wd_94 rfl dX1_writeMessage_45 rfl
theorem o_11_26 : ax_Ok 11 48 (ax_iload 3 27) := ok_iload_n rfl dX1_writeMessage_48 rfl
theorem o_11_27 : ax_Ok 11 49 (ax_callV 5 40 1 28) := ok_callV (C := RX5) rfl rfl wd_264 wd_150 wd_151 wd_2 mo_40 (by decide) dX1_writeMessage_49 rfl
theorem o_11_28 : ax_Ok 11 52 (ax_if (fun x => decide (x = 0)) 40 29) := ok_if_eq dX1_writeMessage_52 (by decide) rfl
theorem o_11_29 : ax_Ok 11 55 (ax_aload 0 30) := ok_aload_n rfl dX1_writeMessage_55 rfl
theorem o_11_30 : ax_Ok 11 56 (ax_get 1 2 31) := ok_get (C := RX1) (T := TX1) (N := 4) rfl in_X1 (by decide) wd_94 rfl dX1_writeMessage_56 rfl
theorem o_11_31 : ax_Ok 11 59 (ax_const 33 32) := ok_bipush (by decide) dX1_writeMessage_59 rfl
theorem o_11_32 : ax_Ok 11 61 (ax_callV 5 40 1 33) := ok_callV (C := RX5) rfl rfl wd_264 wd_150 wd_151 wd_2 mo_40 (by decide) dX1_writeMessage_61 rfl
theorem o_11_33 : ax_Ok 11 64 (ax_if (fun x => decide (x = 0)) 40 34) := ok_if_eq dX1_writeMessage_64 (by decide) rfl
theorem o_11_34 : ax_Ok 11 67 (ax_aload 0 35) := ok_aload_n rfl dX1_writeMessage_67 rfl
theorem o_11_35 : ax_Ok 11 68 (ax_iload 1 36) := ok_iload_n rfl dX1_writeMessage_68 rfl
theorem o_11_36 : ax_Ok 11 69 (ax_callV 1 12 1 37) := ok_callV (C := RX1) rfl rfl wd_275 wd_277 wp_16 wd_6 mo_12 (by decide) dX1_writeMessage_69 rfl
theorem o_11_37 : ax_Ok 11 72 (ax_if (fun x => decide (x = 0)) 40 38) := ok_if_eq dX1_writeMessage_72 (by decide) rfl
theorem o_11_38 : ax_Ok 11 75 (ax_const 1 39) := ok_iconst (by decide) dX1_writeMessage_75 rfl
theorem o_11_39 : ax_Ok 11 76 (ax_goto 41) := ok_goto dX1_writeMessage_76 (by decide)
theorem o_11_40 : ax_Ok 11 79 (ax_const 0 41) := ok_iconst (by decide) dX1_writeMessage_79 rfl
theorem o_11_41 : ax_Ok 11 80 (ax_ret 1) := ok_ret1 rfl dX1_writeMessage_80
theorem o_11_42 : ax_Ok 11 81 (ax_aload 0 43) := ok_aload_n rfl dX1_writeMessage_81 rfl
theorem o_11_43 : ax_Ok 11 82 (ax_get 1 1 44) := ok_get (C := RX1) (T := TX1) (N := 4) rfl in_X1 (by decide) wd_93 rfl dX1_writeMessage_82 rfl
theorem o_11_44 : ax_Ok 11 85 (ax_iload 3 45) := ok_iload_n rfl dX1_writeMessage_85 rfl
theorem o_11_45 : ax_Ok 11 86 (ax_icmp (fun x y => decide (¬ x = y)) 64 46) := ok_icmp_ne dX1_writeMessage_86 (by decide) rfl
theorem o_11_46 : ax_Ok 11 89 (ax_aload 0 47) := ok_aload_n rfl dX1_writeMessage_89 rfl
theorem o_11_47 : ax_Ok 11 90 (ax_get 1 2 48) := ok_get (C := RX1) (T := TX1) (N := 4) rfl in_X1 (by decide) wd_94 rfl dX1_writeMessage_90 rfl
theorem o_11_48 : ax_Ok 11 93 (ax_iload 2 49) := ok_iload_n rfl dX1_writeMessage_93 rfl
theorem o_11_49 : ax_Ok 11 94 (ax_callV 5 40 1 50) := ok_callV (C := RX5) rfl rfl wd_264 wd_150 wd_151 wd_2 mo_40 (by decide) dX1_writeMessage_94 rfl
theorem o_11_50 : ax_Ok 11 97 (ax_if (fun x => decide (x = 0)) 62 51) := ok_if_eq dX1_writeMessage_97 (by decide) rfl
theorem o_11_51 : ax_Ok 11 100 (ax_aload 0 52) := ok_aload_n rfl dX1_writeMessage_100 rfl
theorem o_11_52 : ax_Ok 11 101 (ax_get 1 2 53) := ok_get (C := RX1) (T := TX1) (N := 4) rfl in_X1 (by decide) wd_94 rfl dX1_writeMessage_101 rfl
theorem o_11_53 : ax_Ok 11 104 (ax_const 63 54) := ok_bipush (by decide) dX1_writeMessage_104 rfl
theorem o_11_54 : ax_Ok 11 106 (ax_callV 5 40 1 55) := ok_callV (C := RX5) rfl rfl wd_264 wd_150 wd_151 wd_2 mo_40 (by decide) dX1_writeMessage_106 rfl
theorem o_11_55 : ax_Ok 11 109 (ax_if (fun x => decide (x = 0)) 62 56) := ok_if_eq dX1_writeMessage_109 (by decide) rfl
theorem o_11_56 : ax_Ok 11 112 (ax_aload 0 57) := ok_aload_n rfl dX1_writeMessage_112 rfl
theorem o_11_57 : ax_Ok 11 113 (ax_iload 1 58) := ok_iload_n rfl dX1_writeMessage_113 rfl
theorem o_11_58 : ax_Ok 11 114 (ax_callV 1 12 1 59) := ok_callV (C := RX1) rfl rfl wd_275 wd_277 wp_16 wd_6 mo_12 (by decide) dX1_writeMessage_114 rfl
theorem o_11_59 : ax_Ok 11 117 (ax_if (fun x => decide (x = 0)) 62 60) := ok_if_eq dX1_writeMessage_117 (by decide) rfl
theorem o_11_60 : ax_Ok 11 120 (ax_const 1 61) := ok_iconst (by decide) dX1_writeMessage_120 rfl
theorem o_11_61 : ax_Ok 11 121 (ax_goto 63) := ok_goto dX1_writeMessage_121 (by decide)
theorem o_11_62 : ax_Ok 11 124 (ax_const 0 63) := ok_iconst (by decide) dX1_writeMessage_124 rfl
theorem o_11_63 : ax_Ok 11 125 (ax_ret 1) := ok_ret1 rfl dX1_writeMessage_125
theorem o_11_64 : ax_Ok 11 126 (ax_aload 0 65) := ok_aload_n rfl dX1_writeMessage_126 rfl
theorem o_11_65 : ax_Ok 11 127 (ax_iload 1 66) := ok_iload_n rfl dX1_writeMessage_127 rfl
theorem o_11_66 : ax_Ok 11 128 (ax_callV 1 13 1 67) := ok_callV (C := RX1) rfl rfl wd_279 wd_281 wp_17 wd_6 mo_13 (by decide) dX1_writeMessage_128 rfl
theorem o_11_67 : ax_Ok 11 131 (ax_ret 1) := ok_ret1 rfl dX1_writeMessage_131
theorem o_12_0 : ax_Ok 12 0 (ax_const 0 1) := ok_iconst (by decide) dX1_writeOwnBranches_0 rfl
theorem o_12_1 : ax_Ok 12 1 (ax_istore 2 2) := ok_istore_n rfl (by decide) dX1_writeOwnBranches_1 rfl
theorem o_12_2 : ax_Ok 12 2 (ax_iload 2 3) := ok_iload_n rfl dX1_writeOwnBranches_2 rfl
theorem o_12_3 : ax_Ok 12 3 (ax_const 60 4) := ok_bipush (by decide) dX1_writeOwnBranches_3 rfl
theorem o_12_4 : ax_Ok 12 5 (ax_icmp (fun x y => decide (y ≤ x)) 46 5) := ok_icmp_ge dX1_writeOwnBranches_5 (by decide) rfl
theorem o_12_5 : ax_Ok 12 8 (ax_aload 0 6) := ok_aload_n rfl dX1_writeOwnBranches_8 rfl
theorem o_12_6 : ax_Ok 12 9 (ax_get 1 0 7) := ok_get (C := RX1) (T := TX1) (N := 4) rfl in_X1 (by decide) wd_92 rfl dX1_writeOwnBranches_9 rfl
theorem o_12_7 : ax_Ok 12 12 (ax_aload 0 8) := ok_aload_n rfl dX1_writeOwnBranches_12 rfl
theorem o_12_8 : ax_Ok 12 13 (ax_get 1 3 9) := ok_get (C := RX1) (T := TX1) (N := 4) rfl in_X1 (by decide) wd_95 rfl dX1_writeOwnBranches_13 rfl
theorem o_12_9 : ax_Ok 12 16 (ax_callV 5 39 1 10) := ok_callV (C := RX5) rfl rfl wd_254 wd_174 wd_175 wd_2 mo_39 (by decide) dX1_writeOwnBranches_16 rfl
theorem o_12_10 : ax_Ok 12 19 (ax_const 125 11) := ok_bipush (by decide) dX1_writeOwnBranches_19 rfl
theorem o_12_11 : ax_Ok 12 21 (ax_icmp (fun x y => decide (x = y)) 46 12) := ok_icmp_eq dX1_writeOwnBranches_21 (by decide) rfl
theorem o_12_12 : ax_Ok 12 24 (ax_const 0 13) := ok_iconst (by decide) dX1_writeOwnBranches_24 rfl
theorem o_12_13 : ax_Ok 12 25 (ax_istore 3 14) := ok_istore_n rfl (by decide) dX1_writeOwnBranches_25 rfl
theorem o_12_14 : ax_Ok 12 26 (ax_iload 3 15) := ok_iload_n rfl dX1_writeOwnBranches_26 rfl
theorem o_12_15 : ax_Ok 12 27 (ax_const 3 16) := ok_iconst (by decide) dX1_writeOwnBranches_27 rfl
theorem o_12_16 : ax_Ok 12 28 (ax_icmp (fun x y => decide (y ≤ x)) 30 17) := ok_icmp_ge dX1_writeOwnBranches_28 (by decide) rfl
theorem o_12_17 : ax_Ok 12 31 (ax_aload 0 18) := ok_aload_n rfl dX1_writeOwnBranches_31 rfl
theorem o_12_18 : ax_Ok 12 32 (ax_get 1 2 19) := ok_get (C := RX1) (T := TX1) (N := 4) rfl in_X1 (by decide) wd_94 rfl dX1_writeOwnBranches_32 rfl
theorem o_12_19 : ax_Ok 12 35 (ax_aload 0 20) := ok_aload_n rfl dX1_writeOwnBranches_35 rfl
theorem o_12_20 : ax_Ok 12 36 (ax_get 1 0 21) := ok_get (C := RX1) (T := TX1) (N := 4) rfl in_X1 (by decide) wd_92 rfl dX1_writeOwnBranches_36 rfl
theorem o_12_21 : ax_Ok 12 39 (ax_aload 0 22) := ok_aload_n rfl dX1_writeOwnBranches_39 rfl
theorem o_12_22 : ax_Ok 12 40 (ax_get 1 3 23) := ok_get (C := RX1) (T := TX1) (N := 4) rfl in_X1 (by decide) wd_95 rfl dX1_writeOwnBranches_40 rfl
theorem o_12_23 : ax_Ok 12 43 (ax_iload 3 24) := ok_iload_n rfl dX1_writeOwnBranches_43 rfl
theorem o_12_24 : ax_Ok 12 44 (ax_bin (fun x y => x + y) 25) := ok_iadd dX1_writeOwnBranches_44 rfl
theorem o_12_25 : ax_Ok 12 45 (ax_callV 5 39 1 26) := ok_callV (C := RX5) rfl rfl wd_254 wd_174 wd_175 wd_2 mo_39 (by decide) dX1_writeOwnBranches_45 rfl
theorem o_12_26 : ax_Ok 12 48 (ax_callV 5 40 1 27) := ok_callV (C := RX5) rfl rfl wd_264 wd_150 wd_151 wd_2 mo_40 (by decide) dX1_writeOwnBranches_48 rfl
theorem o_12_27 : ax_Ok 12 51 (ax_pop 28) := ok_pop dX1_writeOwnBranches_51 rfl
theorem o_12_28 : ax_Ok 12 52 (ax_iinc 3 1 29) := ok_iinc (by decide) (by decide) dX1_writeOwnBranches_52 rfl
theorem o_12_29 : ax_Ok 12 55 (ax_goto 14) := ok_goto dX1_writeOwnBranches_55 (by decide)
theorem o_12_30 : ax_Ok 12 58 (ax_aload 0 31) := ok_aload_n rfl dX1_writeOwnBranches_58 rfl
theorem o_12_31 : ax_Ok 12 59 (ax_dup 32) := ok_dup dX1_writeOwnBranches_59 rfl
theorem o_12_32 : ax_Ok 12 60 (ax_get 1 3 33) := ok_get (C := RX1) (T := TX1) (N := 4) rfl in_X1 (by decide) wd_95 rfl dX1_writeOwnBranches_60 rfl
theorem o_12_33 : ax_Ok 12 63 (ax_const 3 34) := ok_iconst (by decide) dX1_writeOwnBranches_63 rfl
theorem o_12_34 : ax_Ok 12 64 (ax_bin (fun x y => x + y) 35) := ok_iadd dX1_writeOwnBranches_64 rfl
theorem o_12_35 : ax_Ok 12 65 (ax_put 1 3 0 36) := ok_put (C := RX1) (T := TX1) (N := 4) rfl in_X1 tyX1 tyX1_ok nmX1 (by decide) wd_95 rfl rfl rfl dX1_writeOwnBranches_65 rfl
theorem o_12_36 : ax_Ok 12 68 (ax_aload 0 37) := ok_aload_n rfl dX1_writeOwnBranches_68 rfl
theorem o_12_37 : ax_Ok 12 69 (ax_iload 1 38) := ok_iload_n rfl dX1_writeOwnBranches_69 rfl
theorem o_12_38 : ax_Ok 12 70 (ax_const 1 39) := ok_iconst (by decide) dX1_writeOwnBranches_70 rfl
theorem o_12_39 : ax_Ok 12 71 (ax_bin (fun x y => x + y) 40) := ok_iadd dX1_writeOwnBranches_71 rfl
theorem o_12_40 : ax_Ok 12 72 (ax_callV 1 8 1 41) := ok_callV (C := RX1) rfl rfl wd_250 wd_252 wp_12 wd_6 mo_8 (by decide) dX1_writeOwnBranches_72 rfl
theorem o_12_41 : ax_Ok 12 75 (ax_if (fun x => decide (¬ x = 0)) 44 42) := ok_if_ne dX1_writeOwnBranches_75 (by decide) rfl
theorem o_12_42 : ax_Ok 12 78 (ax_const 0 43) := ok_iconst (by decide) dX1_writeOwnBranches_78 rfl
theorem o_12_43 : ax_Ok 12 79 (ax_ret 1) := ok_ret1 rfl dX1_writeOwnBranches_79
theorem o_12_44 : ax_Ok 12 80 (ax_iinc 2 1 45) := ok_iinc (by decide) (by decide) dX1_writeOwnBranches_80 rfl
theorem o_12_45 : ax_Ok 12 83 (ax_goto 2) := ok_goto dX1_writeOwnBranches_83 (by decide)
theorem o_12_46 : ax_Ok 12 86 (ax_aload 0 47) := ok_aload_n rfl dX1_writeOwnBranches_86 rfl
theorem o_12_47 : ax_Ok 12 87 (ax_dup 48) := ok_dup dX1_writeOwnBranches_87 rfl
theorem o_12_48 : ax_Ok 12 88 (ax_get 1 3 49) := ok_get (C := RX1) (T := TX1) (N := 4) rfl in_X1 (by decide) wd_95 rfl dX1_writeOwnBranches_88 rfl
theorem o_12_49 : ax_Ok 12 91 (ax_const 1 50) := ok_iconst (by decide) dX1_writeOwnBranches_91 rfl
theorem o_12_50 : ax_Ok 12 92 (ax_bin (fun x y => x + y) 51) := ok_iadd dX1_writeOwnBranches_92 rfl
theorem o_12_51 : ax_Ok 12 93 (ax_put 1 3 0 52) := ok_put (C := RX1) (T := TX1) (N := 4) rfl in_X1 tyX1 tyX1_ok nmX1 (by decide) wd_95 rfl rfl rfl dX1_writeOwnBranches_93 rfl
theorem o_12_52 : ax_Ok 12 96 (ax_aload 0 53) := ok_aload_n rfl dX1_writeOwnBranches_96 rfl
theorem o_12_53 : ax_Ok 12 97 (ax_get 1 2 54) := ok_get (C := RX1) (T := TX1) (N := 4) rfl in_X1 (by decide) wd_94 rfl dX1_writeOwnBranches_97 rfl
theorem o_12_54 : ax_Ok 12 100 (ax_const 125 55) := ok_bipush (by decide) dX1_writeOwnBranches_100 rfl
theorem o_12_55 : ax_Ok 12 102 (ax_callV 5 40 1 56) := ok_callV (C := RX5) rfl rfl wd_264 wd_150 wd_151 wd_2 mo_40 (by decide) dX1_writeOwnBranches_102 rfl
theorem o_12_56 : ax_Ok 12 105 (ax_ret 1) := ok_ret1 rfl dX1_writeOwnBranches_105
theorem o_13_0 : ax_Ok 13 0 (ax_aload 0 1) := ok_aload_n rfl dX1_writeCommonPart_0 rfl
theorem o_13_1 : ax_Ok 13 1 (ax_get 1 2 2) := ok_get (C := RX1) (T := TX1) (N := 4) rfl in_X1 (by decide) wd_94 rfl dX1_writeCommonPart_1 rfl
theorem o_13_2 : ax_Ok 13 4 (ax_callV 5 38 0 3) := ok_callV (C := RX5) rfl rfl wd_259 wd_170 wd_171 wd_2 mo_38 (by decide) dX1_writeCommonPart_4 rfl
theorem o_13_3 : ax_Ok 13 7 (ax_istore 2 4) := ok_istore_n rfl (by decide) dX1_writeCommonPart_7 rfl
theorem o_13_4 : ax_Ok 13 8 (ax_iload 2 5) := ok_iload_n rfl dX1_writeCommonPart_8 rfl
theorem o_13_5 : ax_Ok 13 9 (ax_istore 3 6) := ok_istore_n rfl (by decide) dX1_writeCommonPart_9 rfl
theorem o_13_6 : ax_Ok 13 10 (ax_const 0 7) := ok_iconst (by decide) dX1_writeCommonPart_10 rfl
theorem o_13_7 : ax_Ok 13 11 (ax_istore 4 8) := ok_istore (by decide) dX1_writeCommonPart_11 rfl
theorem o_13_8 : ax_Ok 13 13 (ax_iload 4 9) := ok_iload dX1_writeCommonPart_13 rfl
theorem o_13_9 : ax_Ok 13 15 (ax_const 60 10) := ok_bipush (by decide) dX1_writeCommonPart_15 rfl
theorem o_13_10 : ax_Ok 13 17 (ax_icmp (fun x y => decide (y ≤ x)) 53 11) := ok_icmp_ge dX1_writeCommonPart_17 (by decide) rfl
theorem o_13_11 : ax_Ok 13 20 (ax_aload 0 12) := ok_aload_n rfl dX1_writeCommonPart_20 rfl
theorem o_13_12 : ax_Ok 13 21 (ax_get 1 0 13) := ok_get (C := RX1) (T := TX1) (N := 4) rfl in_X1 (by decide) wd_92 rfl dX1_writeCommonPart_21 rfl
theorem o_13_13 : ax_Ok 13 24 (ax_aload 0 14) := ok_aload_n rfl dX1_writeCommonPart_24 rfl
theorem o_13_14 : ax_Ok 13 25 (ax_get 1 3 15) := ok_get (C := RX1) (T := TX1) (N := 4) rfl in_X1 (by decide) wd_95 rfl dX1_writeCommonPart_25 rfl
theorem o_13_15 : ax_Ok 13 28 (ax_callV 5 39 1 16) := ok_callV (C := RX5) rfl rfl wd_254 wd_174 wd_175 wd_2 mo_39 (by decide) dX1_writeCommonPart_28 rfl
theorem o_13_16 : ax_Ok 13 31 (ax_const 125 17) := ok_bipush (by decide) dX1_writeCommonPart_31 rfl
theorem o_13_17 : ax_Ok 13 33 (ax_icmp (fun x y => decide (x = y)) 53 18) := ok_icmp_eq dX1_writeCommonPart_33 (by decide) rfl
theorem o_13_18 : ax_Ok 13 36 (ax_aload 0 19) := ok_aload_n rfl dX1_writeCommonPart_36 rfl
theorem o_13_19 : ax_Ok 13 37 (ax_dup 20) := ok_dup dX1_writeCommonPart_37 rfl
theorem o_13_20 : ax_Ok 13 38 (ax_get 1 3 21) := ok_get (C := RX1) (T := TX1) (N := 4) rfl in_X1 (by decide) wd_95 rfl dX1_writeCommonPart_38 rfl
theorem o_13_21 : ax_Ok 13 41 (ax_const 3 22) := ok_iconst (by decide) dX1_writeCommonPart_41 rfl
theorem o_13_22 : ax_Ok 13 42 (ax_bin (fun x y => x + y) 23) := ok_iadd dX1_writeCommonPart_42 rfl
theorem o_13_23 : ax_Ok 13 43 (ax_put 1 3 0 24) := ok_put (C := RX1) (T := TX1) (N := 4) rfl in_X1 tyX1 tyX1_ok nmX1 (by decide) wd_95 rfl rfl rfl dX1_writeCommonPart_43 rfl
theorem o_13_24 : ax_Ok 13 46 (ax_aload 0 25) := ok_aload_n rfl dX1_writeCommonPart_46 rfl
theorem o_13_25 : ax_Ok 13 47 (ax_iload 1 26) := ok_iload_n rfl dX1_writeCommonPart_47 rfl
theorem o_13_26 : ax_Ok 13 48 (ax_const 1 27) := ok_iconst (by decide) dX1_writeCommonPart_48 rfl
theorem o_13_27 : ax_Ok 13 49 (ax_bin (fun x y => x + y) 28) := ok_iadd dX1_writeCommonPart_49 rfl
theorem o_13_28 : ax_Ok 13 50 (ax_callV 1 8 1 29) := ok_callV (C := RX1) rfl rfl wd_250 wd_252 wp_12 wd_6 mo_8 (by decide) dX1_writeCommonPart_50 rfl
theorem o_13_29 : ax_Ok 13 53 (ax_if (fun x => decide (¬ x = 0)) 32 30) := ok_if_ne dX1_writeCommonPart_53 (by decide) rfl
theorem o_13_30 : ax_Ok 13 56 (ax_const 0 31) := ok_iconst (by decide) dX1_writeCommonPart_56 rfl
theorem o_13_31 : ax_Ok 13 57 (ax_ret 1) := ok_ret1 rfl dX1_writeCommonPart_57
theorem o_13_32 : ax_Ok 13 58 (ax_iload 4 33) := ok_iload dX1_writeCommonPart_58 rfl
theorem o_13_33 : ax_Ok 13 60 (ax_if (fun x => decide (¬ x = 0)) 39 34) := ok_if_ne dX1_writeCommonPart_60 (by decide) rfl
theorem o_13_34 : ax_Ok 13 63 (ax_aload 0 35) := ok_aload_n rfl dX1_writeCommonPart_63 rfl
theorem o_13_35 : ax_Ok 13 64 (ax_get 1 2 36) := ok_get (C := RX1) (T := TX1) (N := 4) rfl in_X1 (by decide) wd_94 rfl dX1_writeCommonPart_64 rfl
theorem o_13_36 : ax_Ok 13 67 (ax_callV 5 38 0 37) := ok_callV (C := RX5) rfl rfl wd_259 wd_170 wd_171 wd_2 mo_38 (by decide) dX1_writeCommonPart_67 rfl
theorem o_13_37 : ax_Ok 13 70 (ax_istore 3 38) := ok_istore_n rfl (by decide) dX1_writeCommonPart_70 rfl
theorem o_13_38 : ax_Ok 13 71 (ax_goto 47) := ok_goto dX1_writeCommonPart_71 (by decide)
theorem o_13_39 : ax_Ok 13 74 (ax_aload 0 40) := ok_aload_n rfl dX1_writeCommonPart_74 rfl
theorem o_13_40 : ax_Ok 13 75 (ax_get 1 2 41) := ok_get (C := RX1) (T := TX1) (N := 4) rfl in_X1 (by decide) wd_94 rfl dX1_writeCommonPart_75 rfl
theorem o_13_41 : ax_Ok 13 78 (ax_iload 2 42) := ok_iload_n rfl dX1_writeCommonPart_78 rfl
theorem o_13_42 : ax_Ok 13 79 (ax_iload 3 43) := ok_iload_n rfl dX1_writeCommonPart_79 rfl
theorem o_13_43 : ax_Ok 13 80 (ax_callV 5 45 2 44) := ok_callV (C := RX5) rfl rfl wd_283 wd_284 wd_285 wd_2 mo_45 (by decide) dX1_writeCommonPart_80 rfl
theorem o_13_44 : ax_Ok 13 83 (ax_if (fun x => decide (¬ x = 0)) 47 45) := ok_if_ne dX1_writeCommonPart_83 (by decide) rfl
theorem o_13_45 : ax_Ok 13 86 (ax_const 0 46) := ok_iconst (by decide) dX1_writeCommonPart_86 rfl
theorem o_13_46 : ax_Ok 13 87 (ax_ret 1) := ok_ret1 rfl dX1_writeCommonPart_87
theorem o_13_47 : ax_Ok 13 88 (ax_aload 0 48) := ok_aload_n rfl dX1_writeCommonPart_88 rfl
theorem o_13_48 : ax_Ok 13 89 (ax_get 1 2 49) := ok_get (C := RX1) (T := TX1) (N := 4) rfl in_X1 (by decide) wd_94 rfl dX1_writeCommonPart_89 rfl
theorem o_13_49 : ax_Ok 13 92 (ax_iload 3 50) := ok_iload_n rfl dX1_writeCommonPart_92 rfl
theorem o_13_50 : ax_Ok 13 93 (ax_callV 5 42 1 51) := ok_callV (C := RX5) rfl rfl wd_246 wd_247 wd_248 wd_2 mo_42 (by decide) dX1_writeCommonPart_93 rfl
theorem o_13_51 : ax_Ok 13 96 (ax_iinc 4 1 52) := ok_iinc (by decide) (by decide) dX1_writeCommonPart_96 rfl
theorem o_13_52 : ax_Ok 13 99 (ax_goto 8) := ok_goto dX1_writeCommonPart_99 (by decide)
theorem o_13_53 : ax_Ok 13 102 (ax_aload 0 54) := ok_aload_n rfl dX1_writeCommonPart_102 rfl
theorem o_13_54 : ax_Ok 13 103 (ax_dup 55) := ok_dup dX1_writeCommonPart_103 rfl
theorem o_13_55 : ax_Ok 13 104 (ax_get 1 3 56) := ok_get (C := RX1) (T := TX1) (N := 4) rfl in_X1 (by decide) wd_95 rfl dX1_writeCommonPart_104 rfl
theorem o_13_56 : ax_Ok 13 107 (ax_const 1 57) := ok_iconst (by decide) dX1_writeCommonPart_107 rfl
theorem o_13_57 : ax_Ok 13 108 (ax_bin (fun x y => x + y) 58) := ok_iadd dX1_writeCommonPart_108 rfl
theorem o_13_58 : ax_Ok 13 109 (ax_put 1 3 0 59) := ok_put (C := RX1) (T := TX1) (N := 4) rfl in_X1 tyX1 tyX1_ok nmX1 (by decide) wd_95 rfl rfl rfl dX1_writeCommonPart_109 rfl
theorem o_13_59 : ax_Ok 13 112 (ax_const 1 60) := ok_iconst (by decide) dX1_writeCommonPart_112 rfl
theorem o_13_60 : ax_Ok 13 113 (ax_ret 1) := ok_ret1 rfl dX1_writeCommonPart_113
theorem o_14_0 : ax_Ok 14 0 (ax_aload 0 1) := ok_aload_n rfl dX2_init_0 rfl
theorem o_14_1 : ax_Ok 14 1 (ax_obj 2) := ok_obj wd_74 wd_15 wd_obj dX2_init_1 rfl
theorem o_14_2 : ax_Ok 14 4 (ax_aload 0 3) := ok_aload_n rfl dX2_init_4 rfl
theorem o_14_3 : ax_Ok 14 5 (ax_const 0 4) := ok_iconst (by decide) dX2_init_5 rfl
theorem o_14_4 : ax_Ok 14 6 (ax_put 2 1 1 5) := ok_put (C := RX2) (T := TX2) (N := 3) rfl in_X2 tyX2 tyX2_ok nmX2 (by decide) wd_77 rfl rfl rfl dX2_init_6 rfl
theorem o_14_5 : ax_Ok 14 9 (ax_aload 0 6) := ok_aload_n rfl dX2_init_9 rfl
theorem o_14_6 : ax_Ok 14 10 (ax_const 0 7) := ok_iconst (by decide) dX2_init_10 rfl
theorem o_14_7 : ax_Ok 14 11 (ax_put 2 2 0 8) := ok_put (C := RX2) (T := TX2) (N := 3) rfl in_X2 tyX2 tyX2_ok nmX2 (by decide) wd_79 rfl rfl rfl dX2_init_11 rfl
theorem o_14_8 : ax_Ok 14 14 (ax_aload 0 9) := ok_aload_n rfl dX2_init_14 rfl
theorem o_14_9 : ax_Ok 14 15 (ax_aload 1 10) := ok_aload_n rfl dX2_init_15 rfl
theorem o_14_10 : ax_Ok 14 16 (ax_put 2 0 3 11) := ok_putF (C := RX2) (T := TX2) (N := 3) rfl in_X2 tyX2 tyX2_ok nmX2 (by decide) wd_75 rfl rfl rfl rfl rfl dX2_init_16 rfl
theorem o_14_11 : ax_Ok 14 19 (ax_retv) := ok_retv rfl dX2_init_19
theorem o_15_0 : ax_Ok 15 0 (ax_aload 0 1) := ok_aload_n rfl dX2_toBeginning_0 rfl
theorem o_15_1 : ax_Ok 15 1 (ax_const 0 2) := ok_iconst (by decide) dX2_toBeginning_1 rfl
theorem o_15_2 : ax_Ok 15 2 (ax_put 2 2 0 3) := ok_put (C := RX2) (T := TX2) (N := 3) rfl in_X2 tyX2 tyX2_ok nmX2 (by decide) wd_79 rfl rfl rfl dX2_toBeginning_2 rfl
theorem o_15_3 : ax_Ok 15 5 (ax_aload 0 4) := ok_aload_n rfl dX2_toBeginning_5 rfl
theorem o_15_4 : ax_Ok 15 6 (ax_callV 2 20 0 5) := ok_callV (C := RX2) rfl rfl wd_317 wd_319 wp_19 wd_5 mo_20 (by decide) dX2_toBeginning_6 rfl
theorem o_15_5 : ax_Ok 15 9 (ax_retv) := ok_retv rfl dX2_toBeginning_9
theorem o_16_0 : ax_Ok 16 0 (ax_aload 0 1) := ok_aload_n rfl dX2_action_0 rfl
theorem o_16_1 : ax_Ok 16 1 (ax_get 2 0 2) := ok_get (C := RX2) (T := TX2) (N := 3) rfl in_X2 (by decide) wd_75 rfl dX2_action_1 rfl
theorem o_16_2 : ax_Ok 16 4 (ax_aload 0 3) := ok_aload_n rfl dX2_action_4 rfl
theorem o_16_3 : ax_Ok 16 5 (ax_get 2 2 4) := ok_get (C := RX2) (T := TX2) (N := 3) rfl in_X2 (by decide) wd_79 rfl dX2_action_5 rfl
theorem o_16_4 : ax_Ok 16 8 (ax_callV 5 39 1 5) := ok_callV (C := RX5) rfl rfl wd_321 wd_174 wd_175 wd_2 mo_39 (by decide) dX2_action_8 rfl
theorem o_16_5 : ax_Ok 16 11 (ax_callS 72 1 6) := ok_callSN (host := "RoleParts") wn_343 wd_189 wd_1 mo_72 dX2_action_11 rfl
theorem o_16_6 : ax_Ok 16 14 (ax_if (fun x => decide (¬ x = 0)) 9 7) := ok_if_ne dX2_action_14 (by decide) rfl
theorem o_16_7 : ax_Ok 16 17 (ax_const 0 8) := ok_iconst (by decide) dX2_action_17 rfl
theorem o_16_8 : ax_Ok 16 18 (ax_ret 0) := ok_ret0 rfl dX2_action_18
theorem o_16_9 : ax_Ok 16 19 (ax_aload 0 10) := ok_aload_n rfl dX2_action_19 rfl
theorem o_16_10 : ax_Ok 16 20 (ax_get 2 0 11) := ok_get (C := RX2) (T := TX2) (N := 3) rfl in_X2 (by decide) wd_75 rfl dX2_action_20 rfl
theorem o_16_11 : ax_Ok 16 23 (ax_aload 0 12) := ok_aload_n rfl dX2_action_23 rfl
theorem o_16_12 : ax_Ok 16 24 (ax_get 2 2 13) := ok_get (C := RX2) (T := TX2) (N := 3) rfl in_X2 (by decide) wd_79 rfl dX2_action_24 rfl
theorem o_16_13 : ax_Ok 16 27 (ax_const 1 14) := ok_iconst (by decide) dX2_action_27 rfl
theorem o_16_14 : ax_Ok 16 28 (ax_bin (fun x y => x + y) 15) := ok_iadd dX2_action_28 rfl
theorem o_16_15 : ax_Ok 16 29 (ax_callV 5 39 1 16) := ok_callV (C := RX5) rfl rfl wd_321 wd_174 wd_175 wd_2 mo_39 (by decide) dX2_action_29 rfl
theorem o_16_16 : ax_Ok 16 32 (ax_const 33 17) := ok_bipush (by decide) dX2_action_32 rfl
theorem o_16_17 : ax_Ok 16 34 (ax_icmp (fun x y => decide (¬ x = y)) 20 18) := ok_icmp_ne dX2_action_34 (by decide) rfl
theorem o_16_18 : ax_Ok 16 37 (ax_const 1 19) := ok_iconst (by decide) dX2_action_37 rfl
theorem o_16_19 : ax_Ok 16 38 (ax_goto 21) := ok_goto dX2_action_38 (by decide)
theorem o_16_20 : ax_Ok 16 41 (ax_const 2 21) := ok_iconst (by decide) dX2_action_41 rfl
theorem o_16_21 : ax_Ok 16 42 (ax_ret 0) := ok_ret0 rfl dX2_action_42
theorem o_17_0 : ax_Ok 17 0 (ax_aload 0 1) := ok_aload_n rfl dX2_otherRole_0 rfl
theorem o_17_1 : ax_Ok 17 1 (ax_get 2 0 2) := ok_get (C := RX2) (T := TX2) (N := 3) rfl in_X2 (by decide) wd_75 rfl dX2_otherRole_1 rfl
theorem o_17_2 : ax_Ok 17 4 (ax_aload 0 3) := ok_aload_n rfl dX2_otherRole_4 rfl
theorem o_17_3 : ax_Ok 17 5 (ax_get 2 2 4) := ok_get (C := RX2) (T := TX2) (N := 3) rfl in_X2 (by decide) wd_79 rfl dX2_otherRole_5 rfl
theorem o_17_4 : ax_Ok 17 8 (ax_callV 5 39 1 5) := ok_callV (C := RX5) rfl rfl wd_321 wd_174 wd_175 wd_2 mo_39 (by decide) dX2_otherRole_8 rfl
theorem o_17_5 : ax_Ok 17 11 (ax_istore 1 6) := ok_istore_n rfl (by decide) dX2_otherRole_11 rfl
theorem o_17_6 : ax_Ok 17 12 (ax_iload 1 7) := ok_iload_n rfl dX2_otherRole_12 rfl
theorem o_17_7 : ax_Ok 17 13 (ax_callS 72 1 8) := ok_callSN (host := "RoleParts") wn_343 wd_189 wd_1 mo_72 dX2_otherRole_13 rfl
theorem o_17_8 : ax_Ok 17 16 (ax_if (fun x => decide (x = 0)) 13 9) := ok_if_eq dX2_otherRole_16 (by decide) rfl
theorem o_17_9 : ax_Ok 17 19 (ax_iload 1 10) := ok_iload_n rfl dX2_otherRole_19 rfl
theorem o_17_10 : ax_Ok 17 20 (ax_const 65 11) := ok_bipush (by decide) dX2_otherRole_20 rfl
theorem o_17_11 : ax_Ok 17 22 (ax_bin (fun x y => x - y) 12) := ok_isub dX2_otherRole_22 rfl
theorem o_17_12 : ax_Ok 17 23 (ax_goto 14) := ok_goto dX2_otherRole_23 (by decide)
theorem o_17_13 : ax_Ok 17 26 (ax_const (-1) 14) := ok_iconst (by decide) dX2_otherRole_26 rfl
theorem o_17_14 : ax_Ok 17 27 (ax_ret 0) := ok_ret0 rfl dX2_otherRole_27
theorem o_18_0 : ax_Ok 18 0 (ax_iload 1 1) := ok_iload_n rfl dX2_behindLabel_0 rfl
theorem o_18_1 : ax_Ok 18 1 (ax_if (fun x => decide (x < 0)) 8 2) := ok_if_lt dX2_behindLabel_1 (by decide) rfl
theorem o_18_2 : ax_Ok 18 4 (ax_iload 1 3) := ok_iload_n rfl dX2_behindLabel_4 rfl
theorem o_18_3 : ax_Ok 18 5 (ax_const 6 4) := ok_bipush (by decide) dX2_behindLabel_5 rfl
theorem o_18_4 : ax_Ok 18 7 (ax_icmp (fun x y => decide (y ≤ x)) 8 5) := ok_icmp_ge dX2_behindLabel_7 (by decide) rfl
theorem o_18_5 : ax_Ok 18 10 (ax_aload 0 6) := ok_aload_n rfl dX2_behindLabel_10 rfl
theorem o_18_6 : ax_Ok 18 11 (ax_callV 2 16 0 7) := ok_callV (C := RX2) rfl rfl wd_360 wd_340 wd_341 wd_5 mo_16 (by decide) dX2_behindLabel_11 rfl
theorem o_18_7 : ax_Ok 18 14 (ax_if (fun x => decide (¬ x = 0)) 10 8) := ok_if_ne dX2_behindLabel_14 (by decide) rfl
theorem o_18_8 : ax_Ok 18 17 (ax_const (-1) 9) := ok_iconst (by decide) dX2_behindLabel_17 rfl
theorem o_18_9 : ax_Ok 18 18 (ax_ret 0) := ok_ret0 rfl dX2_behindLabel_18
theorem o_18_10 : ax_Ok 18 19 (ax_const 0 11) := ok_iconst (by decide) dX2_behindLabel_19 rfl
theorem o_18_11 : ax_Ok 18 20 (ax_istore 2 12) := ok_istore_n rfl (by decide) dX2_behindLabel_20 rfl
theorem o_18_12 : ax_Ok 18 21 (ax_aload 0 13) := ok_aload_n rfl dX2_behindLabel_21 rfl
theorem o_18_13 : ax_Ok 18 22 (ax_get 2 2 14) := ok_get (C := RX2) (T := TX2) (N := 3) rfl in_X2 (by decide) wd_79 rfl dX2_behindLabel_22 rfl
theorem o_18_14 : ax_Ok 18 25 (ax_const 2 15) := ok_iconst (by decide) dX2_behindLabel_25 rfl
theorem o_18_15 : ax_Ok 18 26 (ax_bin (fun x y => x + y) 16) := ok_iadd dX2_behindLabel_26 rfl
theorem o_18_16 : ax_Ok 18 27 (ax_istore 3 17) := ok_istore_n rfl (by decide) dX2_behindLabel_27 rfl
theorem o_18_17 : ax_Ok 18 28 (ax_iload 3 18) := ok_iload_n rfl dX2_behindLabel_28 rfl
theorem o_18_18 : ax_Ok 18 29 (ax_aload 0 19) := ok_aload_n rfl dX2_behindLabel_29 rfl
theorem o_18_19 : ax_Ok 18 30 (ax_get 2 0 20) := ok_get (C := RX2) (T := TX2) (N := 3) rfl in_X2 (by decide) wd_75 rfl dX2_behindLabel_30 rfl
theorem o_18_20 : ax_Ok 18 33 (ax_callV 5 38 0 21) := ok_callV (C := RX5) rfl rfl wd_361 wd_170 wd_171 wd_2 mo_38 (by decide) dX2_behindLabel_33 rfl
theorem o_18_21 : ax_Ok 18 36 (ax_icmp (fun x y => decide (y ≤ x)) 64 22) := ok_icmp_ge dX2_behindLabel_36 (by decide) rfl
theorem o_18_22 : ax_Ok 18 39 (ax_aload 0 23) := ok_aload_n rfl dX2_behindLabel_39 rfl
theorem o_18_23 : ax_Ok 18 40 (ax_get 2 0 24) := ok_get (C := RX2) (T := TX2) (N := 3) rfl in_X2 (by decide) wd_75 rfl dX2_behindLabel_40 rfl
theorem o_18_24 : ax_Ok 18 43 (ax_iload 3 25) := ok_iload_n rfl dX2_behindLabel_43 rfl
theorem o_18_25 : ax_Ok 18 44 (ax_callV 5 39 1 26) := ok_callV (C := RX5) rfl rfl wd_321 wd_174 wd_175 wd_2 mo_39 (by decide) dX2_behindLabel_44 rfl
theorem o_18_26 : ax_Ok 18 47 (ax_istore 4 27) := ok_istore (by decide) dX2_behindLabel_47 rfl
theorem o_18_27 : ax_Ok 18 49 (ax_iload 4 28) := ok_iload dX2_behindLabel_49 rfl
theorem o_18_28 : ax_Ok 18 51 (ax_const 123 29) := ok_bipush (by decide) dX2_behindLabel_51 rfl
theorem o_18_29 : ax_Ok 18 53 (ax_icmp (fun x y => decide (¬ x = y)) 31 30) := ok_icmp_ne dX2_behindLabel_53 (by decide) rfl
theorem o_18_30 : ax_Ok 18 56 (ax_iinc 2 1 31) := ok_iinc (by decide) (by decide) dX2_behindLabel_56 rfl
theorem o_18_31 : ax_Ok 18 59 (ax_iload 2 32) := ok_iload_n rfl dX2_behindLabel_59 rfl
theorem o_18_32 : ax_Ok 18 60 (ax_const 1 33) := ok_iconst (by decide) dX2_behindLabel_60 rfl
theorem o_18_33 : ax_Ok 18 61 (ax_icmp (fun x y => decide (¬ x = y)) 54 34) := ok_icmp_ne dX2_behindLabel_61 (by decide) rfl
theorem o_18_34 : ax_Ok 18 64 (ax_iload 4 35) := ok_iload dX2_behindLabel_64 rfl
theorem o_18_35 : ax_Ok 18 66 (ax_const 123 36) := ok_bipush (by decide) dX2_behindLabel_66 rfl
theorem o_18_36 : ax_Ok 18 68 (ax_icmp (fun x y => decide (x = y)) 40 37) := ok_icmp_eq dX2_behindLabel_68 (by decide) rfl
theorem o_18_37 : ax_Ok 18 71 (ax_iload 4 38) := ok_iload dX2_behindLabel_71 rfl
theorem o_18_38 : ax_Ok 18 73 (ax_const 44 39) := ok_bipush (by decide) dX2_behindLabel_73 rfl
theorem o_18_39 : ax_Ok 18 75 (ax_icmp (fun x y => decide (¬ x = y)) 54 40) := ok_icmp_ne dX2_behindLabel_75 (by decide) rfl
theorem o_18_40 : ax_Ok 18 78 (ax_aload 0 41) := ok_aload_n rfl dX2_behindLabel_78 rfl
theorem o_18_41 : ax_Ok 18 79 (ax_get 2 0 42) := ok_get (C := RX2) (T := TX2) (N := 3) rfl in_X2 (by decide) wd_75 rfl dX2_behindLabel_79 rfl
theorem o_18_42 : ax_Ok 18 82 (ax_iload 3 43) := ok_iload_n rfl dX2_behindLabel_82 rfl
theorem o_18_43 : ax_Ok 18 83 (ax_const 1 44) := ok_iconst (by decide) dX2_behindLabel_83 rfl
theorem o_18_44 : ax_Ok 18 84 (ax_bin (fun x y => x + y) 45) := ok_iadd dX2_behindLabel_84 rfl
theorem o_18_45 : ax_Ok 18 85 (ax_callV 5 39 1 46) := ok_callV (C := RX5) rfl rfl wd_321 wd_174 wd_175 wd_2 mo_39 (by decide) dX2_behindLabel_85 rfl
theorem o_18_46 : ax_Ok 18 88 (ax_const 112 47) := ok_bipush (by decide) dX2_behindLabel_88 rfl
theorem o_18_47 : ax_Ok 18 90 (ax_iload 1 48) := ok_iload_n rfl dX2_behindLabel_90 rfl
theorem o_18_48 : ax_Ok 18 91 (ax_bin (fun x y => x + y) 49) := ok_iadd dX2_behindLabel_91 rfl
theorem o_18_49 : ax_Ok 18 92 (ax_icmp (fun x y => decide (¬ x = y)) 54 50) := ok_icmp_ne dX2_behindLabel_92 (by decide) rfl
theorem o_18_50 : ax_Ok 18 95 (ax_iload 3 51) := ok_iload_n rfl dX2_behindLabel_95 rfl
theorem o_18_51 : ax_Ok 18 96 (ax_const 3 52) := ok_iconst (by decide) dX2_behindLabel_96 rfl
theorem o_18_52 : ax_Ok 18 97 (ax_bin (fun x y => x + y) 53) := ok_iadd dX2_behindLabel_97 rfl
theorem o_18_53 : ax_Ok 18 98 (ax_ret 0) := ok_ret0 rfl dX2_behindLabel_98
theorem o_18_54 : ax_Ok 18 99 (ax_iload 4 55) := ok_iload dX2_behindLabel_99 rfl
theorem o_18_55 : ax_Ok 18 101 (ax_const 125 56) := ok_bipush (by decide) dX2_behindLabel_101 rfl
theorem o_18_56 : ax_Ok 18 103 (ax_icmp (fun x y => decide (¬ x = y)) 58 57) := ok_icmp_ne dX2_behindLabel_103 (by decide) rfl
theorem o_18_57 : ax_Ok 18 106 (ax_iinc 2 (-1) 58) := ok_iinc (by decide) (by decide) dX2_behindLabel_106 rfl
theorem o_18_58 : ax_Ok 18 109 (ax_iload 2 59) := ok_iload_n rfl dX2_behindLabel_109 rfl
theorem o_18_59 : ax_Ok 18 110 (ax_if (fun x => decide (¬ x = 0)) 62 60) := ok_if_ne dX2_behindLabel_110 (by decide) rfl
theorem o_18_60 : ax_Ok 18 113 (ax_const (-1) 61) := ok_iconst (by decide) dX2_behindLabel_113 rfl
theorem o_18_61 : ax_Ok 18 114 (ax_ret 0) := ok_ret0 rfl dX2_behindLabel_114
theorem o_18_62 : ax_Ok 18 115 (ax_iinc 3 1 63) := ok_iinc (by decide) (by decide) dX2_behindLabel_115 rfl
theorem o_18_63 : ax_Ok 18 118 (ax_goto 17) := ok_goto dX2_behindLabel_118 (by decide)
theorem o_18_64 : ax_Ok 18 121 (ax_const (-1) 65) := ok_iconst (by decide) dX2_behindLabel_121 rfl
theorem o_18_65 : ax_Ok 18 122 (ax_ret 0) := ok_ret0 rfl dX2_behindLabel_122
theorem o_19_0 : ax_Ok 19 0 (ax_aload 0 1) := ok_aload_n rfl dX2_follow_0 rfl
theorem o_19_1 : ax_Ok 19 1 (ax_iload 1 2) := ok_iload_n rfl dX2_follow_1 rfl
theorem o_19_2 : ax_Ok 19 2 (ax_callV 2 18 1 3) := ok_callV (C := RX2) rfl rfl wd_378 wd_357 wd_358 wd_5 mo_18 (by decide) dX2_follow_2 rfl
theorem o_19_3 : ax_Ok 19 5 (ax_istore 2 4) := ok_istore_n rfl (by decide) dX2_follow_5 rfl
theorem o_19_4 : ax_Ok 19 6 (ax_iload 2 5) := ok_iload_n rfl dX2_follow_6 rfl
theorem o_19_5 : ax_Ok 19 7 (ax_const (-1) 6) := ok_iconst (by decide) dX2_follow_7 rfl
theorem o_19_6 : ax_Ok 19 8 (ax_icmp (fun x y => decide (¬ x = y)) 9 7) := ok_icmp_ne dX2_follow_8 (by decide) rfl
theorem o_19_7 : ax_Ok 19 11 (ax_const 0 8) := ok_iconst (by decide) dX2_follow_11 rfl
theorem o_19_8 : ax_Ok 19 12 (ax_ret 1) := ok_ret1 rfl dX2_follow_12
theorem o_19_9 : ax_Ok 19 13 (ax_aload 0 10) := ok_aload_n rfl dX2_follow_13 rfl
theorem o_19_10 : ax_Ok 19 14 (ax_iload 2 11) := ok_iload_n rfl dX2_follow_14 rfl
theorem o_19_11 : ax_Ok 19 15 (ax_put 2 2 0 12) := ok_put (C := RX2) (T := TX2) (N := 3) rfl in_X2 tyX2 tyX2_ok nmX2 (by decide) wd_79 rfl rfl rfl dX2_follow_15 rfl
theorem o_19_12 : ax_Ok 19 18 (ax_aload 0 13) := ok_aload_n rfl dX2_follow_18 rfl
theorem o_19_13 : ax_Ok 19 19 (ax_callV 2 20 0 14) := ok_callV (C := RX2) rfl rfl wd_317 wd_319 wp_19 wd_5 mo_20 (by decide) dX2_follow_19 rfl
theorem o_19_14 : ax_Ok 19 22 (ax_const 1 15) := ok_iconst (by decide) dX2_follow_22 rfl
theorem o_19_15 : ax_Ok 19 23 (ax_ret 1) := ok_ret1 rfl dX2_follow_23
theorem o_20_0 : ax_Ok 20 0 (ax_const 0 1) := ok_iconst (by decide) dX2_goOnAtOnce_0 rfl
theorem o_20_1 : ax_Ok 20 1 (ax_istore 1 2) := ok_istore_n rfl (by decide) dX2_goOnAtOnce_1 rfl
theorem o_20_2 : ax_Ok 20 2 (ax_iload 1 3) := ok_iload_n rfl dX2_goOnAtOnce_2 rfl
theorem o_20_3 : ax_Ok 20 3 (ax_const 60 4) := ok_bipush (by decide) dX2_goOnAtOnce_3 rfl
theorem o_20_4 : ax_Ok 20 5 (ax_icmp (fun x y => decide (y ≤ x)) 33 5) := ok_icmp_ge dX2_goOnAtOnce_5 (by decide) rfl
theorem o_20_5 : ax_Ok 20 8 (ax_aload 0 6) := ok_aload_n rfl dX2_goOnAtOnce_8 rfl
theorem o_20_6 : ax_Ok 20 9 (ax_get 2 0 7) := ok_get (C := RX2) (T := TX2) (N := 3) rfl in_X2 (by decide) wd_75 rfl dX2_goOnAtOnce_9 rfl
theorem o_20_7 : ax_Ok 20 12 (ax_aload 0 8) := ok_aload_n rfl dX2_goOnAtOnce_12 rfl
theorem o_20_8 : ax_Ok 20 13 (ax_get 2 2 9) := ok_get (C := RX2) (T := TX2) (N := 3) rfl in_X2 (by decide) wd_79 rfl dX2_goOnAtOnce_13 rfl
theorem o_20_9 : ax_Ok 20 16 (ax_callV 5 39 1 10) := ok_callV (C := RX5) rfl rfl wd_321 wd_174 wd_175 wd_2 mo_39 (by decide) dX2_goOnAtOnce_16 rfl
theorem o_20_10 : ax_Ok 20 19 (ax_istore 2 11) := ok_istore_n rfl (by decide) dX2_goOnAtOnce_19 rfl
theorem o_20_11 : ax_Ok 20 20 (ax_iload 2 12) := ok_iload_n rfl dX2_goOnAtOnce_20 rfl
theorem o_20_12 : ax_Ok 20 21 (ax_const 109 13) := ok_bipush (by decide) dX2_goOnAtOnce_21 rfl
theorem o_20_13 : ax_Ok 20 23 (ax_icmp (fun x y => decide (¬ x = y)) 21 14) := ok_icmp_ne dX2_goOnAtOnce_23 (by decide) rfl
theorem o_20_14 : ax_Ok 20 26 (ax_aload 0 15) := ok_aload_n rfl dX2_goOnAtOnce_26 rfl
theorem o_20_15 : ax_Ok 20 27 (ax_dup 16) := ok_dup dX2_goOnAtOnce_27 rfl
theorem o_20_16 : ax_Ok 20 28 (ax_get 2 2 17) := ok_get (C := RX2) (T := TX2) (N := 3) rfl in_X2 (by decide) wd_79 rfl dX2_goOnAtOnce_28 rfl
theorem o_20_17 : ax_Ok 20 31 (ax_const 3 18) := ok_iconst (by decide) dX2_goOnAtOnce_31 rfl
theorem o_20_18 : ax_Ok 20 32 (ax_bin (fun x y => x + y) 19) := ok_iadd dX2_goOnAtOnce_32 rfl
theorem o_20_19 : ax_Ok 20 33 (ax_put 2 2 0 20) := ok_put (C := RX2) (T := TX2) (N := 3) rfl in_X2 tyX2 tyX2_ok nmX2 (by decide) wd_79 rfl rfl rfl dX2_goOnAtOnce_33 rfl
theorem o_20_20 : ax_Ok 20 36 (ax_goto 31) := ok_goto dX2_goOnAtOnce_36 (by decide)
theorem o_20_21 : ax_Ok 20 39 (ax_iload 2 22) := ok_iload_n rfl dX2_goOnAtOnce_39 rfl
theorem o_20_22 : ax_Ok 20 40 (ax_callS 74 1 23) := ok_callSN (host := "RoleParts") wn_322 wd_186 wd_1 mo_74 dX2_goOnAtOnce_40 rfl
theorem o_20_23 : ax_Ok 20 43 (ax_if (fun x => decide (x = 0)) 30 24) := ok_if_eq dX2_goOnAtOnce_43 (by decide) rfl
theorem o_20_24 : ax_Ok 20 46 (ax_aload 0 25) := ok_aload_n rfl dX2_goOnAtOnce_46 rfl
theorem o_20_25 : ax_Ok 20 47 (ax_aload 0 26) := ok_aload_n rfl dX2_goOnAtOnce_47 rfl
theorem o_20_26 : ax_Ok 20 48 (ax_iload 2 27) := ok_iload_n rfl dX2_goOnAtOnce_48 rfl
theorem o_20_27 : ax_Ok 20 49 (ax_callV 2 21 1 28) := ok_callV (C := RX2) rfl rfl wd_323 wd_325 wp_20 wd_5 mo_21 (by decide) dX2_goOnAtOnce_49 rfl
theorem o_20_28 : ax_Ok 20 52 (ax_put 2 2 0 29) := ok_put (C := RX2) (T := TX2) (N := 3) rfl in_X2 tyX2 tyX2_ok nmX2 (by decide) wd_79 rfl rfl rfl dX2_goOnAtOnce_52 rfl
theorem o_20_29 : ax_Ok 20 55 (ax_goto 31) := ok_goto dX2_goOnAtOnce_55 (by decide)
theorem o_20_30 : ax_Ok 20 58 (ax_retv) := ok_retv rfl dX2_goOnAtOnce_58
theorem o_20_31 : ax_Ok 20 59 (ax_iinc 1 1 32) := ok_iinc (by decide) (by decide) dX2_goOnAtOnce_59 rfl
theorem o_20_32 : ax_Ok 20 62 (ax_goto 2) := ok_goto dX2_goOnAtOnce_62 (by decide)
theorem o_20_33 : ax_Ok 20 65 (ax_retv) := ok_retv rfl dX2_goOnAtOnce_65
theorem o_21_0 : ax_Ok 21 0 (ax_aload 0 1) := ok_aload_n rfl dX2_bodyOfLoop_0 rfl
theorem o_21_1 : ax_Ok 21 1 (ax_get 2 2 2) := ok_get (C := RX2) (T := TX2) (N := 3) rfl in_X2 (by decide) wd_79 rfl dX2_bodyOfLoop_1 rfl
theorem o_21_2 : ax_Ok 21 4 (ax_const 1 3) := ok_iconst (by decide) dX2_bodyOfLoop_4 rfl
theorem o_21_3 : ax_Ok 21 5 (ax_bin (fun x y => x - y) 4) := ok_isub dX2_bodyOfLoop_5 rfl
theorem o_21_4 : ax_Ok 21 6 (ax_istore 2 5) := ok_istore_n rfl (by decide) dX2_bodyOfLoop_6 rfl
theorem o_21_5 : ax_Ok 21 7 (ax_iload 2 6) := ok_iload_n rfl dX2_bodyOfLoop_7 rfl
theorem o_21_6 : ax_Ok 21 8 (ax_if (fun x => decide (x < 0)) 27 7) := ok_if_lt dX2_bodyOfLoop_8 (by decide) rfl
theorem o_21_7 : ax_Ok 21 11 (ax_aload 0 8) := ok_aload_n rfl dX2_bodyOfLoop_11 rfl
theorem o_21_8 : ax_Ok 21 12 (ax_get 2 0 9) := ok_get (C := RX2) (T := TX2) (N := 3) rfl in_X2 (by decide) wd_75 rfl dX2_bodyOfLoop_12 rfl
theorem o_21_9 : ax_Ok 21 15 (ax_iload 2 10) := ok_iload_n rfl dX2_bodyOfLoop_15 rfl
theorem o_21_10 : ax_Ok 21 16 (ax_callV 5 39 1 11) := ok_callV (C := RX5) rfl rfl wd_321 wd_174 wd_175 wd_2 mo_39 (by decide) dX2_bodyOfLoop_16 rfl
theorem o_21_11 : ax_Ok 21 19 (ax_const 109 12) := ok_bipush (by decide) dX2_bodyOfLoop_19 rfl
theorem o_21_12 : ax_Ok 21 21 (ax_icmp (fun x y => decide (¬ x = y)) 25 13) := ok_icmp_ne dX2_bodyOfLoop_21 (by decide) rfl
theorem o_21_13 : ax_Ok 21 24 (ax_aload 0 14) := ok_aload_n rfl dX2_bodyOfLoop_24 rfl
theorem o_21_14 : ax_Ok 21 25 (ax_get 2 0 15) := ok_get (C := RX2) (T := TX2) (N := 3) rfl in_X2 (by decide) wd_75 rfl dX2_bodyOfLoop_25 rfl
theorem o_21_15 : ax_Ok 21 28 (ax_iload 2 16) := ok_iload_n rfl dX2_bodyOfLoop_28 rfl
theorem o_21_16 : ax_Ok 21 29 (ax_const 1 17) := ok_iconst (by decide) dX2_bodyOfLoop_29 rfl
theorem o_21_17 : ax_Ok 21 30 (ax_bin (fun x y => x + y) 18) := ok_iadd dX2_bodyOfLoop_30 rfl
theorem o_21_18 : ax_Ok 21 31 (ax_callV 5 39 1 19) := ok_callV (C := RX5) rfl rfl wd_321 wd_174 wd_175 wd_2 mo_39 (by decide) dX2_bodyOfLoop_31 rfl
theorem o_21_19 : ax_Ok 21 34 (ax_iload 1 20) := ok_iload_n rfl dX2_bodyOfLoop_34 rfl
theorem o_21_20 : ax_Ok 21 35 (ax_icmp (fun x y => decide (¬ x = y)) 25 21) := ok_icmp_ne dX2_bodyOfLoop_35 (by decide) rfl
theorem o_21_21 : ax_Ok 21 38 (ax_iload 2 22) := ok_iload_n rfl dX2_bodyOfLoop_38 rfl
theorem o_21_22 : ax_Ok 21 39 (ax_const 3 23) := ok_iconst (by decide) dX2_bodyOfLoop_39 rfl
theorem o_21_23 : ax_Ok 21 40 (ax_bin (fun x y => x + y) 24) := ok_iadd dX2_bodyOfLoop_40 rfl
theorem o_21_24 : ax_Ok 21 41 (ax_ret 0) := ok_ret0 rfl dX2_bodyOfLoop_41
theorem o_21_25 : ax_Ok 21 42 (ax_iinc 2 (-1) 26) := ok_iinc (by decide) (by decide) dX2_bodyOfLoop_42 rfl
theorem o_21_26 : ax_Ok 21 45 (ax_goto 5) := ok_goto dX2_bodyOfLoop_45 (by decide)
theorem o_21_27 : ax_Ok 21 48 (ax_aload 0 28) := ok_aload_n rfl dX2_bodyOfLoop_48 rfl
theorem o_21_28 : ax_Ok 21 49 (ax_get 2 2 29) := ok_get (C := RX2) (T := TX2) (N := 3) rfl in_X2 (by decide) wd_79 rfl dX2_bodyOfLoop_49 rfl
theorem o_21_29 : ax_Ok 21 52 (ax_ret 0) := ok_ret0 rfl dX2_bodyOfLoop_52
theorem o_22_0 : ax_Ok 22 0 (ax_aload 0 1) := ok_aload_n rfl dX3_init_0 rfl
theorem o_22_1 : ax_Ok 22 1 (ax_obj 2) := ok_obj wd_109 wd_15 wd_obj dX3_init_1 rfl
theorem o_22_2 : ax_Ok 22 4 (ax_aload 0 3) := ok_aload_n rfl dX3_init_4 rfl
theorem o_22_3 : ax_Ok 22 5 (ax_const 3 4) := ok_iconst (by decide) dX3_init_5 rfl
theorem o_22_4 : ax_Ok 22 6 (ax_newa 0 5) := ok_newa0 wd_63 dX3_init_6 rfl
theorem o_22_5 : ax_Ok 22 8 (ax_put 3 0 3 6) := ok_putF (C := RX3) (T := TX3) (N := 2) rfl in_X3 tyX3 tyX3_ok nmX3 (by decide) wd_110 rfl rfl rfl rfl rfl dX3_init_8 rfl
theorem o_22_6 : ax_Ok 22 11 (ax_aload 0 7) := ok_aload_n rfl dX3_init_11 rfl
theorem o_22_7 : ax_Ok 22 12 (ax_const 0 8) := ok_iconst (by decide) dX3_init_12 rfl
theorem o_22_8 : ax_Ok 22 13 (ax_put 3 1 0 9) := ok_put (C := RX3) (T := TX3) (N := 2) rfl in_X3 tyX3 tyX3_ok nmX3 (by decide) wd_111 rfl rfl rfl dX3_init_13 rfl
theorem o_22_9 : ax_Ok 22 16 (ax_retv) := ok_retv rfl dX3_init_16
theorem o_23_0 : ax_Ok 23 0 (ax_aload 0 1) := ok_aload_n rfl dX3_size_0 rfl
theorem o_23_1 : ax_Ok 23 1 (ax_get 3 1 2) := ok_get (C := RX3) (T := TX3) (N := 2) rfl in_X3 (by decide) wd_111 rfl dX3_size_1 rfl
theorem o_23_2 : ax_Ok 23 4 (ax_ret 0) := ok_ret0 rfl dX3_size_4
theorem o_24_0 : ax_Ok 24 0 (ax_aload 0 1) := ok_aload_n rfl dX3_isFull_0 rfl
theorem o_24_1 : ax_Ok 24 1 (ax_get 3 1 2) := ok_get (C := RX3) (T := TX3) (N := 2) rfl in_X3 (by decide) wd_111 rfl dX3_isFull_1 rfl
theorem o_24_2 : ax_Ok 24 4 (ax_const 3 3) := ok_iconst (by decide) dX3_isFull_4 rfl
theorem o_24_3 : ax_Ok 24 5 (ax_icmp (fun x y => decide (x < y)) 6 4) := ok_icmp_lt dX3_isFull_5 (by decide) rfl
theorem o_24_4 : ax_Ok 24 8 (ax_const 1 5) := ok_iconst (by decide) dX3_isFull_8 rfl
theorem o_24_5 : ax_Ok 24 9 (ax_goto 7) := ok_goto dX3_isFull_9 (by decide)
theorem o_24_6 : ax_Ok 24 12 (ax_const 0 7) := ok_iconst (by decide) dX3_isFull_12 rfl
theorem o_24_7 : ax_Ok 24 13 (ax_ret 1) := ok_ret1 rfl dX3_isFull_13
theorem o_25_0 : ax_Ok 25 0 (ax_iload 1 1) := ok_iload_n rfl dX3_get_0 rfl
theorem o_25_1 : ax_Ok 25 1 (ax_if (fun x => decide (x < 0)) 11 2) := ok_if_lt dX3_get_1 (by decide) rfl
theorem o_25_2 : ax_Ok 25 4 (ax_iload 1 3) := ok_iload_n rfl dX3_get_4 rfl
theorem o_25_3 : ax_Ok 25 5 (ax_aload 0 4) := ok_aload_n rfl dX3_get_5 rfl
theorem o_25_4 : ax_Ok 25 6 (ax_get 3 1 5) := ok_get (C := RX3) (T := TX3) (N := 2) rfl in_X3 (by decide) wd_111 rfl dX3_get_6 rfl
theorem o_25_5 : ax_Ok 25 9 (ax_icmp (fun x y => decide (y ≤ x)) 11 6) := ok_icmp_ge dX3_get_9 (by decide) rfl
theorem o_25_6 : ax_Ok 25 12 (ax_aload 0 7) := ok_aload_n rfl dX3_get_12 rfl
theorem o_25_7 : ax_Ok 25 13 (ax_get 3 0 8) := ok_get (C := RX3) (T := TX3) (N := 2) rfl in_X3 (by decide) wd_110 rfl dX3_get_13 rfl
theorem o_25_8 : ax_Ok 25 16 (ax_iload 1 9) := ok_iload_n rfl dX3_get_16 rfl
theorem o_25_9 : ax_Ok 25 17 (ax_ald 0 10) := ok_iald dX3_get_17 rfl
theorem o_25_10 : ax_Ok 25 18 (ax_goto 12) := ok_goto dX3_get_18 (by decide)
theorem o_25_11 : ax_Ok 25 21 (ax_const (-1) 12) := ok_iconst (by decide) dX3_get_21 rfl
theorem o_25_12 : ax_Ok 25 22 (ax_ret 0) := ok_ret0 rfl dX3_get_22
theorem o_26_0 : ax_Ok 26 0 (ax_aload 0 1) := ok_aload_n rfl dX3_clear_0 rfl
theorem o_26_1 : ax_Ok 26 1 (ax_const 0 2) := ok_iconst (by decide) dX3_clear_1 rfl
theorem o_26_2 : ax_Ok 26 2 (ax_put 3 1 0 3) := ok_put (C := RX3) (T := TX3) (N := 2) rfl in_X3 tyX3 tyX3_ok nmX3 (by decide) wd_111 rfl rfl rfl dX3_clear_2 rfl
theorem o_26_3 : ax_Ok 26 5 (ax_retv) := ok_retv rfl dX3_clear_5
theorem o_27_0 : ax_Ok 27 0 (ax_aload 0 1) := ok_aload_n rfl dX3_append_0 rfl
theorem o_27_1 : ax_Ok 27 1 (ax_get 3 1 2) := ok_get (C := RX3) (T := TX3) (N := 2) rfl in_X3 (by decide) wd_111 rfl dX3_append_1 rfl
theorem o_27_2 : ax_Ok 27 4 (ax_const 3 3) := ok_iconst (by decide) dX3_append_4 rfl
theorem o_27_3 : ax_Ok 27 5 (ax_icmp (fun x y => decide (y ≤ x)) 16 4) := ok_icmp_ge dX3_append_5 (by decide) rfl
theorem o_27_4 : ax_Ok 27 8 (ax_aload 0 5) := ok_aload_n rfl dX3_append_8 rfl
theorem o_27_5 : ax_Ok 27 9 (ax_get 3 0 6) := ok_get (C := RX3) (T := TX3) (N := 2) rfl in_X3 (by decide) wd_110 rfl dX3_append_9 rfl
theorem o_27_6 : ax_Ok 27 12 (ax_aload 0 7) := ok_aload_n rfl dX3_append_12 rfl
theorem o_27_7 : ax_Ok 27 13 (ax_get 3 1 8) := ok_get (C := RX3) (T := TX3) (N := 2) rfl in_X3 (by decide) wd_111 rfl dX3_append_13 rfl
theorem o_27_8 : ax_Ok 27 16 (ax_iload 1 9) := ok_iload_n rfl dX3_append_16 rfl
theorem o_27_9 : ax_Ok 27 17 (ax_ast 0 10) := ok_iast dX3_append_17 rfl
theorem o_27_10 : ax_Ok 27 18 (ax_aload 0 11) := ok_aload_n rfl dX3_append_18 rfl
theorem o_27_11 : ax_Ok 27 19 (ax_dup 12) := ok_dup dX3_append_19 rfl
theorem o_27_12 : ax_Ok 27 20 (ax_get 3 1 13) := ok_get (C := RX3) (T := TX3) (N := 2) rfl in_X3 (by decide) wd_111 rfl dX3_append_20 rfl
theorem o_27_13 : ax_Ok 27 23 (ax_const 1 14) := ok_iconst (by decide) dX3_append_23 rfl
theorem o_27_14 : ax_Ok 27 24 (ax_bin (fun x y => x + y) 15) := ok_iadd dX3_append_24 rfl
theorem o_27_15 : ax_Ok 27 25 (ax_put 3 1 0 16) := ok_put (C := RX3) (T := TX3) (N := 2) rfl in_X3 tyX3 tyX3_ok nmX3 (by decide) wd_111 rfl rfl rfl dX3_append_25 rfl
theorem o_27_16 : ax_Ok 27 28 (ax_retv) := ok_retv rfl dX3_append_28
theorem o_28_0 : ax_Ok 28 0 (ax_const 1 1) := ok_iconst (by decide) dX3_removeFirst_0 rfl
theorem o_28_1 : ax_Ok 28 1 (ax_istore 1 2) := ok_istore_n rfl (by decide) dX3_removeFirst_1 rfl
theorem o_28_2 : ax_Ok 28 2 (ax_iload 1 3) := ok_iload_n rfl dX3_removeFirst_2 rfl
theorem o_28_3 : ax_Ok 28 3 (ax_aload 0 4) := ok_aload_n rfl dX3_removeFirst_3 rfl
theorem o_28_4 : ax_Ok 28 4 (ax_get 3 1 5) := ok_get (C := RX3) (T := TX3) (N := 2) rfl in_X3 (by decide) wd_111 rfl dX3_removeFirst_4 rfl
theorem o_28_5 : ax_Ok 28 7 (ax_icmp (fun x y => decide (y ≤ x)) 18 6) := ok_icmp_ge dX3_removeFirst_7 (by decide) rfl
theorem o_28_6 : ax_Ok 28 10 (ax_aload 0 7) := ok_aload_n rfl dX3_removeFirst_10 rfl
theorem o_28_7 : ax_Ok 28 11 (ax_get 3 0 8) := ok_get (C := RX3) (T := TX3) (N := 2) rfl in_X3 (by decide) wd_110 rfl dX3_removeFirst_11 rfl
theorem o_28_8 : ax_Ok 28 14 (ax_iload 1 9) := ok_iload_n rfl dX3_removeFirst_14 rfl
theorem o_28_9 : ax_Ok 28 15 (ax_const 1 10) := ok_iconst (by decide) dX3_removeFirst_15 rfl
theorem o_28_10 : ax_Ok 28 16 (ax_bin (fun x y => x - y) 11) := ok_isub dX3_removeFirst_16 rfl
theorem o_28_11 : ax_Ok 28 17 (ax_aload 0 12) := ok_aload_n rfl dX3_removeFirst_17 rfl
theorem o_28_12 : ax_Ok 28 18 (ax_get 3 0 13) := ok_get (C := RX3) (T := TX3) (N := 2) rfl in_X3 (by decide) wd_110 rfl dX3_removeFirst_18 rfl
theorem o_28_13 : ax_Ok 28 21 (ax_iload 1 14) := ok_iload_n rfl dX3_removeFirst_21 rfl
theorem o_28_14 : ax_Ok 28 22 (ax_ald 0 15) := ok_iald dX3_removeFirst_22 rfl
theorem o_28_15 : ax_Ok 28 23 (ax_ast 0 16) := ok_iast dX3_removeFirst_23 rfl
theorem o_28_16 : ax_Ok 28 24 (ax_iinc 1 1 17) := ok_iinc (by decide) (by decide) dX3_removeFirst_24 rfl
theorem o_28_17 : ax_Ok 28 27 (ax_goto 2) := ok_goto dX3_removeFirst_27 (by decide)
theorem o_28_18 : ax_Ok 28 30 (ax_aload 0 19) := ok_aload_n rfl dX3_removeFirst_30 rfl
theorem o_28_19 : ax_Ok 28 31 (ax_get 3 1 20) := ok_get (C := RX3) (T := TX3) (N := 2) rfl in_X3 (by decide) wd_111 rfl dX3_removeFirst_31 rfl
theorem o_28_20 : ax_Ok 28 34 (ax_if (fun x => decide (x ≤ 0)) 27 21) := ok_if_le dX3_removeFirst_34 (by decide) rfl
theorem o_28_21 : ax_Ok 28 37 (ax_aload 0 22) := ok_aload_n rfl dX3_removeFirst_37 rfl
theorem o_28_22 : ax_Ok 28 38 (ax_dup 23) := ok_dup dX3_removeFirst_38 rfl
theorem o_28_23 : ax_Ok 28 39 (ax_get 3 1 24) := ok_get (C := RX3) (T := TX3) (N := 2) rfl in_X3 (by decide) wd_111 rfl dX3_removeFirst_39 rfl
theorem o_28_24 : ax_Ok 28 42 (ax_const 1 25) := ok_iconst (by decide) dX3_removeFirst_42 rfl
theorem o_28_25 : ax_Ok 28 43 (ax_bin (fun x y => x - y) 26) := ok_isub dX3_removeFirst_43 rfl
theorem o_28_26 : ax_Ok 28 44 (ax_put 3 1 0 27) := ok_put (C := RX3) (T := TX3) (N := 2) rfl in_X3 tyX3 tyX3_ok nmX3 (by decide) wd_111 rfl rfl rfl dX3_removeFirst_44 rfl
theorem o_28_27 : ax_Ok 28 47 (ax_retv) := ok_retv rfl dX3_removeFirst_47
theorem o_29_0 : ax_Ok 29 0 (ax_aload 0 1) := ok_aload_n rfl dX4_init_0 rfl
theorem o_29_1 : ax_Ok 29 1 (ax_obj 2) := ok_obj wd_49 wd_15 wd_obj dX4_init_1 rfl
theorem o_29_2 : ax_Ok 29 4 (ax_aload 0 3) := ok_aload_n rfl dX4_init_4 rfl
theorem o_29_3 : ax_Ok 29 5 (ax_const 60 4) := ok_bipush (by decide) dX4_init_5 rfl
theorem o_29_4 : ax_Ok 29 7 (ax_newa 0 5) := ok_newa0 wd_63 dX4_init_7 rfl
theorem o_29_5 : ax_Ok 29 9 (ax_put 4 0 3 6) := ok_putF (C := RX4) (T := TX4) (N := 4) rfl in_X4 tyX4 tyX4_ok nmX4 (by decide) wd_50 rfl rfl rfl rfl rfl dX4_init_9 rfl
theorem o_29_6 : ax_Ok 29 12 (ax_aload 0 7) := ok_aload_n rfl dX4_init_12 rfl
theorem o_29_7 : ax_Ok 29 13 (ax_const 60 8) := ok_bipush (by decide) dX4_init_13 rfl
theorem o_29_8 : ax_Ok 29 15 (ax_newa 0 9) := ok_newa0 wd_63 dX4_init_15 rfl
theorem o_29_9 : ax_Ok 29 17 (ax_put 4 1 3 10) := ok_putF (C := RX4) (T := TX4) (N := 4) rfl in_X4 tyX4 tyX4_ok nmX4 (by decide) wd_51 rfl rfl rfl rfl rfl dX4_init_17 rfl
theorem o_29_10 : ax_Ok 29 20 (ax_aload 0 11) := ok_aload_n rfl dX4_init_20 rfl
theorem o_29_11 : ax_Ok 29 21 (ax_const 0 12) := ok_iconst (by decide) dX4_init_21 rfl
theorem o_29_12 : ax_Ok 29 22 (ax_put 4 2 0 13) := ok_put (C := RX4) (T := TX4) (N := 4) rfl in_X4 tyX4 tyX4_ok nmX4 (by decide) wd_52 rfl rfl rfl dX4_init_22 rfl
theorem o_29_13 : ax_Ok 29 25 (ax_aload 0 14) := ok_aload_n rfl dX4_init_25 rfl
theorem o_29_14 : ax_Ok 29 26 (ax_const 0 15) := ok_iconst (by decide) dX4_init_26 rfl
theorem o_29_15 : ax_Ok 29 27 (ax_put 4 3 0 16) := ok_put (C := RX4) (T := TX4) (N := 4) rfl in_X4 tyX4 tyX4_ok nmX4 (by decide) wd_53 rfl rfl rfl dX4_init_27 rfl
theorem o_29_16 : ax_Ok 29 30 (ax_retv) := ok_retv rfl dX4_init_30
theorem o_30_0 : ax_Ok 30 0 (ax_aload 0 1) := ok_aload_n rfl dX4_holdsFor_0 rfl
theorem o_30_1 : ax_Ok 30 1 (ax_const 0 2) := ok_iconst (by decide) dX4_holdsFor_1 rfl
theorem o_30_2 : ax_Ok 30 2 (ax_put 4 2 0 3) := ok_put (C := RX4) (T := TX4) (N := 4) rfl in_X4 tyX4 tyX4_ok nmX4 (by decide) wd_52 rfl rfl rfl dX4_holdsFor_2 rfl
theorem o_30_3 : ax_Ok 30 5 (ax_aload 0 4) := ok_aload_n rfl dX4_holdsFor_5 rfl
theorem o_30_4 : ax_Ok 30 6 (ax_const 0 5) := ok_iconst (by decide) dX4_holdsFor_6 rfl
theorem o_30_5 : ax_Ok 30 7 (ax_put 4 3 0 6) := ok_put (C := RX4) (T := TX4) (N := 4) rfl in_X4 tyX4 tyX4_ok nmX4 (by decide) wd_53 rfl rfl rfl dX4_holdsFor_7 rfl
theorem o_30_6 : ax_Ok 30 10 (ax_aload 0 7) := ok_aload_n rfl dX4_holdsFor_10 rfl
theorem o_30_7 : ax_Ok 30 11 (ax_get 4 0 8) := ok_get (C := RX4) (T := TX4) (N := 4) rfl in_X4 (by decide) wd_50 rfl dX4_holdsFor_11 rfl
theorem o_30_8 : ax_Ok 30 14 (ax_const 0 9) := ok_iconst (by decide) dX4_holdsFor_14 rfl
theorem o_30_9 : ax_Ok 30 15 (ax_const 0 10) := ok_iconst (by decide) dX4_holdsFor_15 rfl
theorem o_30_10 : ax_Ok 30 16 (ax_ast 0 11) := ok_iast dX4_holdsFor_16 rfl
theorem o_30_11 : ax_Ok 30 17 (ax_const 0 12) := ok_iconst (by decide) dX4_holdsFor_17 rfl
theorem o_30_12 : ax_Ok 30 18 (ax_istore 2 13) := ok_istore_n rfl (by decide) dX4_holdsFor_18 rfl
theorem o_30_13 : ax_Ok 30 19 (ax_iload 2 14) := ok_iload_n rfl dX4_holdsFor_19 rfl
theorem o_30_14 : ax_Ok 30 20 (ax_aload 1 15) := ok_aload_n rfl dX4_holdsFor_20 rfl
theorem o_30_15 : ax_Ok 30 21 (ax_callV 5 38 0 16) := ok_callV (C := RX5) rfl rfl wd_206 wd_170 wd_171 wd_2 mo_38 (by decide) dX4_holdsFor_21 rfl
theorem o_30_16 : ax_Ok 30 24 (ax_icmp (fun x y => decide (y ≤ x)) 26 17) := ok_icmp_ge dX4_holdsFor_24 (by decide) rfl
theorem o_30_17 : ax_Ok 30 27 (ax_aload 0 18) := ok_aload_n rfl dX4_holdsFor_27 rfl
theorem o_30_18 : ax_Ok 30 28 (ax_aload 1 19) := ok_aload_n rfl dX4_holdsFor_28 rfl
theorem o_30_19 : ax_Ok 30 29 (ax_iload 2 20) := ok_iload_n rfl dX4_holdsFor_29 rfl
theorem o_30_20 : ax_Ok 30 30 (ax_callV 4 31 2 21) := ok_callV (C := RX4) rfl rfl wd_207 wd_209 wp_5 wd_4 mo_31 (by decide) dX4_holdsFor_30 rfl
theorem o_30_21 : ax_Ok 30 33 (ax_if (fun x => decide (¬ x = 0)) 24 22) := ok_if_ne dX4_holdsFor_33 (by decide) rfl
theorem o_30_22 : ax_Ok 30 36 (ax_const 0 23) := ok_iconst (by decide) dX4_holdsFor_36 rfl
theorem o_30_23 : ax_Ok 30 37 (ax_ret 1) := ok_ret1 rfl dX4_holdsFor_37
theorem o_30_24 : ax_Ok 30 38 (ax_iinc 2 1 25) := ok_iinc (by decide) (by decide) dX4_holdsFor_38 rfl
theorem o_30_25 : ax_Ok 30 41 (ax_goto 13) := ok_goto dX4_holdsFor_41 (by decide)
theorem o_30_26 : ax_Ok 30 44 (ax_const 1 27) := ok_iconst (by decide) dX4_holdsFor_44 rfl
theorem o_30_27 : ax_Ok 30 45 (ax_ret 1) := ok_ret1 rfl dX4_holdsFor_45
theorem o_31_0 : ax_Ok 31 0 (ax_aload 1 1) := ok_aload_n rfl dX4_isSoundAt_0 rfl
theorem o_31_1 : ax_Ok 31 1 (ax_iload 2 2) := ok_iload_n rfl dX4_isSoundAt_1 rfl
theorem o_31_2 : ax_Ok 31 2 (ax_callV 5 39 1 3) := ok_callV (C := RX5) rfl rfl wd_211 wd_174 wd_175 wd_2 mo_39 (by decide) dX4_isSoundAt_2 rfl
theorem o_31_3 : ax_Ok 31 5 (ax_istore 3 4) := ok_istore_n rfl (by decide) dX4_isSoundAt_5 rfl
theorem o_31_4 : ax_Ok 31 6 (ax_iload 3 5) := ok_iload_n rfl dX4_isSoundAt_6 rfl
theorem o_31_5 : ax_Ok 31 7 (ax_sw [(44, 40), (109, 6), (123, 14), (125, 48)] 57) := ok_lsw dX4_isSoundAt_7 (by decide +kernel)
theorem o_31_6 : ax_Ok 31 48 (ax_aload 0 7) := ok_aload_n rfl dX4_isSoundAt_48 rfl
theorem o_31_7 : ax_Ok 31 49 (ax_aload 1 8) := ok_aload_n rfl dX4_isSoundAt_49 rfl
theorem o_31_8 : ax_Ok 31 50 (ax_iload 2 9) := ok_iload_n rfl dX4_isSoundAt_50 rfl
theorem o_31_9 : ax_Ok 31 51 (ax_const 1 10) := ok_iconst (by decide) dX4_isSoundAt_51 rfl
theorem o_31_10 : ax_Ok 31 52 (ax_bin (fun x y => x + y) 11) := ok_iadd dX4_isSoundAt_52 rfl
theorem o_31_11 : ax_Ok 31 53 (ax_callV 5 39 1 12) := ok_callV (C := RX5) rfl rfl wd_211 wd_174 wd_175 wd_2 mo_39 (by decide) dX4_isSoundAt_53 rfl
theorem o_31_12 : ax_Ok 31 56 (ax_callV 4 32 1 13) := ok_callV (C := RX4) rfl rfl wd_212 wd_214 wp_6 wd_4 mo_32 (by decide) dX4_isSoundAt_56 rfl
theorem o_31_13 : ax_Ok 31 59 (ax_ret 1) := ok_ret1 rfl dX4_isSoundAt_59
theorem o_31_14 : ax_Ok 31 60 (ax_aload 1 15) := ok_aload_n rfl dX4_isSoundAt_60 rfl
theorem o_31_15 : ax_Ok 31 61 (ax_iload 2 16) := ok_iload_n rfl dX4_isSoundAt_61 rfl
theorem o_31_16 : ax_Ok 31 62 (ax_const 2 17) := ok_iconst (by decide) dX4_isSoundAt_62 rfl
theorem o_31_17 : ax_Ok 31 63 (ax_bin (fun x y => x - y) 18) := ok_isub dX4_isSoundAt_63 rfl
theorem o_31_18 : ax_Ok 31 64 (ax_callV 5 39 1 19) := ok_callV (C := RX5) rfl rfl wd_211 wd_174 wd_175 wd_2 mo_39 (by decide) dX4_isSoundAt_64 rfl
theorem o_31_19 : ax_Ok 31 67 (ax_aload 1 20) := ok_aload_n rfl dX4_isSoundAt_67 rfl
theorem o_31_20 : ax_Ok 31 68 (ax_iload 2 21) := ok_iload_n rfl dX4_isSoundAt_68 rfl
theorem o_31_21 : ax_Ok 31 69 (ax_const 1 22) := ok_iconst (by decide) dX4_isSoundAt_69 rfl
theorem o_31_22 : ax_Ok 31 70 (ax_bin (fun x y => x - y) 23) := ok_isub dX4_isSoundAt_70 rfl
theorem o_31_23 : ax_Ok 31 71 (ax_callV 5 39 1 24) := ok_callV (C := RX5) rfl rfl wd_211 wd_174 wd_175 wd_2 mo_39 (by decide) dX4_isSoundAt_71 rfl
theorem o_31_24 : ax_Ok 31 74 (ax_icmp (fun x y => decide (x = y)) 38 25) := ok_icmp_eq dX4_isSoundAt_74 (by decide) rfl
theorem o_31_25 : ax_Ok 31 77 (ax_aload 0 26) := ok_aload_n rfl dX4_isSoundAt_77 rfl
theorem o_31_26 : ax_Ok 31 78 (ax_callV 4 33 0 27) := ok_callV (C := RX4) rfl rfl wd_216 wd_218 wp_7 wd_4 mo_33 (by decide) dX4_isSoundAt_78 rfl
theorem o_31_27 : ax_Ok 31 81 (ax_if (fun x => decide (x = 0)) 38 28) := ok_if_eq dX4_isSoundAt_81 (by decide) rfl
theorem o_31_28 : ax_Ok 31 84 (ax_aload 0 29) := ok_aload_n rfl dX4_isSoundAt_84 rfl
theorem o_31_29 : ax_Ok 31 85 (ax_aload 1 30) := ok_aload_n rfl dX4_isSoundAt_85 rfl
theorem o_31_30 : ax_Ok 31 86 (ax_iload 2 31) := ok_iload_n rfl dX4_isSoundAt_86 rfl
theorem o_31_31 : ax_Ok 31 87 (ax_const 1 32) := ok_iconst (by decide) dX4_isSoundAt_87 rfl
theorem o_31_32 : ax_Ok 31 88 (ax_bin (fun x y => x + y) 33) := ok_iadd dX4_isSoundAt_88 rfl
theorem o_31_33 : ax_Ok 31 89 (ax_callV 5 39 1 34) := ok_callV (C := RX5) rfl rfl wd_211 wd_174 wd_175 wd_2 mo_39 (by decide) dX4_isSoundAt_89 rfl
theorem o_31_34 : ax_Ok 31 92 (ax_callV 4 34 1 35) := ok_callV (C := RX4) rfl rfl wd_224 wd_226 wp_9 wd_4 mo_34 (by decide) dX4_isSoundAt_92 rfl
theorem o_31_35 : ax_Ok 31 95 (ax_if (fun x => decide (x = 0)) 38 36) := ok_if_eq dX4_isSoundAt_95 (by decide) rfl
theorem o_31_36 : ax_Ok 31 98 (ax_const 1 37) := ok_iconst (by decide) dX4_isSoundAt_98 rfl
theorem o_31_37 : ax_Ok 31 99 (ax_goto 39) := ok_goto dX4_isSoundAt_99 (by decide)
theorem o_31_38 : ax_Ok 31 102 (ax_const 0 39) := ok_iconst (by decide) dX4_isSoundAt_102 rfl
theorem o_31_39 : ax_Ok 31 103 (ax_ret 1) := ok_ret1 rfl dX4_isSoundAt_103
theorem o_31_40 : ax_Ok 31 104 (ax_aload 0 41) := ok_aload_n rfl dX4_isSoundAt_104 rfl
theorem o_31_41 : ax_Ok 31 105 (ax_aload 1 42) := ok_aload_n rfl dX4_isSoundAt_105 rfl
theorem o_31_42 : ax_Ok 31 106 (ax_iload 2 43) := ok_iload_n rfl dX4_isSoundAt_106 rfl
theorem o_31_43 : ax_Ok 31 107 (ax_const 1 44) := ok_iconst (by decide) dX4_isSoundAt_107 rfl
theorem o_31_44 : ax_Ok 31 108 (ax_bin (fun x y => x + y) 45) := ok_iadd dX4_isSoundAt_108 rfl
theorem o_31_45 : ax_Ok 31 109 (ax_callV 5 39 1 46) := ok_callV (C := RX5) rfl rfl wd_211 wd_174 wd_175 wd_2 mo_39 (by decide) dX4_isSoundAt_109 rfl
theorem o_31_46 : ax_Ok 31 112 (ax_callV 4 34 1 47) := ok_callV (C := RX4) rfl rfl wd_224 wd_226 wp_9 wd_4 mo_34 (by decide) dX4_isSoundAt_112 rfl
theorem o_31_47 : ax_Ok 31 115 (ax_ret 1) := ok_ret1 rfl dX4_isSoundAt_115
theorem o_31_48 : ax_Ok 31 116 (ax_aload 0 49) := ok_aload_n rfl dX4_isSoundAt_116 rfl
theorem o_31_49 : ax_Ok 31 117 (ax_dup 50) := ok_dup dX4_isSoundAt_117 rfl
theorem o_31_50 : ax_Ok 31 118 (ax_get 4 2 51) := ok_get (C := RX4) (T := TX4) (N := 4) rfl in_X4 (by decide) wd_52 rfl dX4_isSoundAt_118 rfl
theorem o_31_51 : ax_Ok 31 121 (ax_const 1 52) := ok_iconst (by decide) dX4_isSoundAt_121 rfl
theorem o_31_52 : ax_Ok 31 122 (ax_bin (fun x y => x - y) 53) := ok_isub dX4_isSoundAt_122 rfl
theorem o_31_53 : ax_Ok 31 123 (ax_put 4 2 0 54) := ok_put (C := RX4) (T := TX4) (N := 4) rfl in_X4 tyX4 tyX4_ok nmX4 (by decide) wd_52 rfl rfl rfl dX4_isSoundAt_123 rfl
theorem o_31_54 : ax_Ok 31 126 (ax_aload 0 55) := ok_aload_n rfl dX4_isSoundAt_126 rfl
theorem o_31_55 : ax_Ok 31 127 (ax_callV 4 36 0 56) := ok_callV (C := RX4) rfl rfl wd_220 wd_222 wp_8 wd_4 mo_36 (by decide) dX4_isSoundAt_127 rfl
theorem o_31_56 : ax_Ok 31 130 (ax_ret 1) := ok_ret1 rfl dX4_isSoundAt_130
theorem o_31_57 : ax_Ok 31 131 (ax_iload 3 58) := ok_iload_n rfl dX4_isSoundAt_131 rfl
theorem o_31_58 : ax_Ok 31 132 (ax_callS 74 1 59) := ok_callSN (host := "RoleParts") wn_228 wd_186 wd_1 mo_74 dX4_isSoundAt_132 rfl
theorem o_31_59 : ax_Ok 31 135 (ax_if (fun x => decide (x = 0)) 69 60) := ok_if_eq dX4_isSoundAt_135 (by decide) rfl
theorem o_31_60 : ax_Ok 31 138 (ax_aload 1 61) := ok_aload_n rfl dX4_isSoundAt_138 rfl
theorem o_31_61 : ax_Ok 31 139 (ax_iload 2 62) := ok_iload_n rfl dX4_isSoundAt_139 rfl
theorem o_31_62 : ax_Ok 31 140 (ax_const 1 63) := ok_iconst (by decide) dX4_isSoundAt_140 rfl
theorem o_31_63 : ax_Ok 31 141 (ax_bin (fun x y => x - y) 64) := ok_isub dX4_isSoundAt_141 rfl
theorem o_31_64 : ax_Ok 31 142 (ax_callV 5 39 1 65) := ok_callV (C := RX5) rfl rfl wd_211 wd_174 wd_175 wd_2 mo_39 (by decide) dX4_isSoundAt_142 rfl
theorem o_31_65 : ax_Ok 31 145 (ax_const 109 66) := ok_bipush (by decide) dX4_isSoundAt_145 rfl
theorem o_31_66 : ax_Ok 31 147 (ax_icmp (fun x y => decide (x = y)) 69 67) := ok_icmp_eq dX4_isSoundAt_147 (by decide) rfl
theorem o_31_67 : ax_Ok 31 150 (ax_const 1 68) := ok_iconst (by decide) dX4_isSoundAt_150 rfl
theorem o_31_68 : ax_Ok 31 151 (ax_goto 70) := ok_goto dX4_isSoundAt_151 (by decide)
theorem o_31_69 : ax_Ok 31 154 (ax_const 0 70) := ok_iconst (by decide) dX4_isSoundAt_154 rfl
theorem o_31_70 : ax_Ok 31 155 (ax_istore 4 71) := ok_istore (by decide) dX4_isSoundAt_155 rfl
theorem o_31_71 : ax_Ok 31 157 (ax_iload 4 72) := ok_iload dX4_isSoundAt_157 rfl
theorem o_31_72 : ax_Ok 31 159 (ax_if (fun x => decide (x = 0)) 77 73) := ok_if_eq dX4_isSoundAt_159 (by decide) rfl
theorem o_31_73 : ax_Ok 31 162 (ax_aload 0 74) := ok_aload_n rfl dX4_isSoundAt_162 rfl
theorem o_31_74 : ax_Ok 31 163 (ax_iload 3 75) := ok_iload_n rfl dX4_isSoundAt_163 rfl
theorem o_31_75 : ax_Ok 31 164 (ax_callV 4 35 1 76) := ok_callV (C := RX4) rfl rfl wd_229 wd_231 wp_10 wd_4 mo_35 (by decide) dX4_isSoundAt_164 rfl
theorem o_31_76 : ax_Ok 31 167 (ax_if (fun x => decide (x = 0)) 79 77) := ok_if_eq dX4_isSoundAt_167 (by decide) rfl
theorem o_31_77 : ax_Ok 31 170 (ax_const 1 78) := ok_iconst (by decide) dX4_isSoundAt_170 rfl
theorem o_31_78 : ax_Ok 31 171 (ax_goto 80) := ok_goto dX4_isSoundAt_171 (by decide)
theorem o_31_79 : ax_Ok 31 174 (ax_const 0 80) := ok_iconst (by decide) dX4_isSoundAt_174 rfl
theorem o_31_80 : ax_Ok 31 175 (ax_ret 1) := ok_ret1 rfl dX4_isSoundAt_175
theorem o_32_0 : ax_Ok 32 0 (ax_const 1 1) := ok_iconst (by decide) dX4_openLoop_0 rfl
theorem o_32_1 : ax_Ok 32 1 (ax_iload 1 2) := ok_iload_n rfl dX4_openLoop_1 rfl
theorem o_32_2 : ax_Ok 32 2 (ax_const 88 3) := ok_bipush (by decide) dX4_openLoop_2 rfl
theorem o_32_3 : ax_Ok 32 4 (ax_bin (fun x y => x - y) 4) := ok_isub dX4_openLoop_4 rfl
theorem o_32_4 : ax_Ok 32 5 (ax_bin (fun x y => x <<< (y &&& 31)) 5) := ok_ishl dX4_openLoop_5 rfl
theorem o_32_5 : ax_Ok 32 6 (ax_istore 2 6) := ok_istore_n rfl (by decide) dX4_openLoop_6 rfl
theorem o_32_6 : ax_Ok 32 7 (ax_aload 0 7) := ok_aload_n rfl dX4_openLoop_7 rfl
theorem o_32_7 : ax_Ok 32 8 (ax_get 4 3 8) := ok_get (C := RX4) (T := TX4) (N := 4) rfl in_X4 (by decide) wd_53 rfl dX4_openLoop_8 rfl
theorem o_32_8 : ax_Ok 32 11 (ax_iload 2 9) := ok_iload_n rfl dX4_openLoop_11 rfl
theorem o_32_9 : ax_Ok 32 12 (ax_bin (fun x y => x &&& y) 10) := ok_iand dX4_openLoop_12 rfl
theorem o_32_10 : ax_Ok 32 13 (ax_if (fun x => decide (x = 0)) 13 11) := ok_if_eq dX4_openLoop_13 (by decide) rfl
theorem o_32_11 : ax_Ok 32 16 (ax_const 0 12) := ok_iconst (by decide) dX4_openLoop_16 rfl
theorem o_32_12 : ax_Ok 32 17 (ax_ret 1) := ok_ret1 rfl dX4_openLoop_17
theorem o_32_13 : ax_Ok 32 18 (ax_aload 0 14) := ok_aload_n rfl dX4_openLoop_18 rfl
theorem o_32_14 : ax_Ok 32 19 (ax_dup 15) := ok_dup dX4_openLoop_19 rfl
theorem o_32_15 : ax_Ok 32 20 (ax_get 4 3 16) := ok_get (C := RX4) (T := TX4) (N := 4) rfl in_X4 (by decide) wd_53 rfl dX4_openLoop_20 rfl
theorem o_32_16 : ax_Ok 32 23 (ax_iload 2 17) := ok_iload_n rfl dX4_openLoop_23 rfl
theorem o_32_17 : ax_Ok 32 24 (ax_bin (fun x y => x ||| y) 18) := ok_ior dX4_openLoop_24 rfl
theorem o_32_18 : ax_Ok 32 25 (ax_put 4 3 0 19) := ok_put (C := RX4) (T := TX4) (N := 4) rfl in_X4 tyX4 tyX4_ok nmX4 (by decide) wd_53 rfl rfl rfl dX4_openLoop_25 rfl
theorem o_32_19 : ax_Ok 32 28 (ax_const 1 20) := ok_iconst (by decide) dX4_openLoop_28 rfl
theorem o_32_20 : ax_Ok 32 29 (ax_ret 1) := ok_ret1 rfl dX4_openLoop_29
theorem o_33_0 : ax_Ok 33 0 (ax_aload 0 1) := ok_aload_n rfl dX4_openMessage_0 rfl
theorem o_33_1 : ax_Ok 33 1 (ax_dup 2) := ok_dup dX4_openMessage_1 rfl
theorem o_33_2 : ax_Ok 33 2 (ax_get 4 2 3) := ok_get (C := RX4) (T := TX4) (N := 4) rfl in_X4 (by decide) wd_52 rfl dX4_openMessage_2 rfl
theorem o_33_3 : ax_Ok 33 5 (ax_const 1 4) := ok_iconst (by decide) dX4_openMessage_5 rfl
theorem o_33_4 : ax_Ok 33 6 (ax_bin (fun x y => x + y) 5) := ok_iadd dX4_openMessage_6 rfl
theorem o_33_5 : ax_Ok 33 7 (ax_put 4 2 0 6) := ok_put (C := RX4) (T := TX4) (N := 4) rfl in_X4 tyX4 tyX4_ok nmX4 (by decide) wd_52 rfl rfl rfl dX4_openMessage_7 rfl
theorem o_33_6 : ax_Ok 33 10 (ax_aload 0 7) := ok_aload_n rfl dX4_openMessage_10 rfl
theorem o_33_7 : ax_Ok 33 11 (ax_callV 4 36 0 8) := ok_callV (C := RX4) rfl rfl wd_220 wd_222 wp_8 wd_4 mo_36 (by decide) dX4_openMessage_11 rfl
theorem o_33_8 : ax_Ok 33 14 (ax_if (fun x => decide (¬ x = 0)) 11 9) := ok_if_ne dX4_openMessage_14 (by decide) rfl
theorem o_33_9 : ax_Ok 33 17 (ax_const 0 10) := ok_iconst (by decide) dX4_openMessage_17 rfl
theorem o_33_10 : ax_Ok 33 18 (ax_ret 1) := ok_ret1 rfl dX4_openMessage_18
theorem o_33_11 : ax_Ok 33 19 (ax_aload 0 12) := ok_aload_n rfl dX4_openMessage_19 rfl
theorem o_33_12 : ax_Ok 33 20 (ax_get 4 0 13) := ok_get (C := RX4) (T := TX4) (N := 4) rfl in_X4 (by decide) wd_50 rfl dX4_openMessage_20 rfl
theorem o_33_13 : ax_Ok 33 23 (ax_aload 0 14) := ok_aload_n rfl dX4_openMessage_23 rfl
theorem o_33_14 : ax_Ok 33 24 (ax_get 4 2 15) := ok_get (C := RX4) (T := TX4) (N := 4) rfl in_X4 (by decide) wd_52 rfl dX4_openMessage_24 rfl
theorem o_33_15 : ax_Ok 33 27 (ax_aload 0 16) := ok_aload_n rfl dX4_openMessage_27 rfl
theorem o_33_16 : ax_Ok 33 28 (ax_get 4 3 17) := ok_get (C := RX4) (T := TX4) (N := 4) rfl in_X4 (by decide) wd_53 rfl dX4_openMessage_28 rfl
theorem o_33_17 : ax_Ok 33 31 (ax_ast 0 18) := ok_iast dX4_openMessage_31 rfl
theorem o_33_18 : ax_Ok 33 32 (ax_aload 0 19) := ok_aload_n rfl dX4_openMessage_32 rfl
theorem o_33_19 : ax_Ok 33 33 (ax_get 4 1 20) := ok_get (C := RX4) (T := TX4) (N := 4) rfl in_X4 (by decide) wd_51 rfl dX4_openMessage_33 rfl
theorem o_33_20 : ax_Ok 33 36 (ax_aload 0 21) := ok_aload_n rfl dX4_openMessage_36 rfl
theorem o_33_21 : ax_Ok 33 37 (ax_get 4 2 22) := ok_get (C := RX4) (T := TX4) (N := 4) rfl in_X4 (by decide) wd_52 rfl dX4_openMessage_37 rfl
theorem o_33_22 : ax_Ok 33 40 (ax_const 0 23) := ok_iconst (by decide) dX4_openMessage_40 rfl
theorem o_33_23 : ax_Ok 33 41 (ax_ast 0 24) := ok_iast dX4_openMessage_41 rfl
theorem o_33_24 : ax_Ok 33 42 (ax_const 1 25) := ok_iconst (by decide) dX4_openMessage_42 rfl
theorem o_33_25 : ax_Ok 33 43 (ax_ret 1) := ok_ret1 rfl dX4_openMessage_43
theorem o_34_0 : ax_Ok 34 0 (ax_const 1 1) := ok_iconst (by decide) dX4_openBranch_0 rfl
theorem o_34_1 : ax_Ok 34 1 (ax_iload 1 2) := ok_iload_n rfl dX4_openBranch_1 rfl
theorem o_34_2 : ax_Ok 34 2 (ax_const 112 3) := ok_bipush (by decide) dX4_openBranch_2 rfl
theorem o_34_3 : ax_Ok 34 4 (ax_bin (fun x y => x - y) 4) := ok_isub dX4_openBranch_4 rfl
theorem o_34_4 : ax_Ok 34 5 (ax_bin (fun x y => x <<< (y &&& 31)) 5) := ok_ishl dX4_openBranch_5 rfl
theorem o_34_5 : ax_Ok 34 6 (ax_istore 2 6) := ok_istore_n rfl (by decide) dX4_openBranch_6 rfl
theorem o_34_6 : ax_Ok 34 7 (ax_aload 0 7) := ok_aload_n rfl dX4_openBranch_7 rfl
theorem o_34_7 : ax_Ok 34 8 (ax_callV 4 36 0 8) := ok_callV (C := RX4) rfl rfl wd_220 wd_222 wp_8 wd_4 mo_36 (by decide) dX4_openBranch_8 rfl
theorem o_34_8 : ax_Ok 34 11 (ax_if (fun x => decide (x = 0)) 17 9) := ok_if_eq dX4_openBranch_11 (by decide) rfl
