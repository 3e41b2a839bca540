theorem dX0_init_0 : decode cX0_init 0 = .ok (.aload_n 0, 1) := by decide +kernel
theorem dX0_init_1 : decode cX0_init 1 = .ok (.invokespecial 3, 3) := by decide +kernel
theorem dX0_init_4 : decode cX0_init 4 = .ok (.aload_n 0, 1) := by decide +kernel
theorem dX0_init_5 : decode cX0_init 5 = .ok (.iconst 0, 1) := by decide +kernel
theorem dX0_init_6 : decode cX0_init 6 = .ok (.putfield 11, 3) := by decide +kernel
theorem dX0_init_9 : decode cX0_init 9 = .ok (.aload_n 0, 1) := by decide +kernel
theorem dX0_init_10 : decode cX0_init 10 = .ok (.iconst 0, 1) := by decide +kernel
theorem dX0_init_11 : decode cX0_init 11 = .ok (.putfield 15, 3) := by decide +kernel
theorem dX0_init_14 : decode cX0_init 14 = .ok (.return_, 1) := by decide +kernel
theorem dX0_faultOf_0 : decode cX0_faultOf 0 = .ok (.aload_n 0, 1) := by decide +kernel
theorem dX0_faultOf_1 : decode cX0_faultOf 1 = .ok (.iconst 0, 1) := by decide +kernel
theorem dX0_faultOf_2 : decode cX0_faultOf 2 = .ok (.putfield 11, 3) := by decide +kernel
theorem dX0_faultOf_5 : decode cX0_faultOf 5 = .ok (.aload_n 0, 1) := by decide +kernel
theorem dX0_faultOf_6 : decode cX0_faultOf 6 = .ok (.iconst 0, 1) := by decide +kernel
theorem dX0_faultOf_7 : decode cX0_faultOf 7 = .ok (.putfield 15, 3) := by decide +kernel
theorem dX0_faultOf_10 : decode cX0_faultOf 10 = .ok (.iconst 0, 1) := by decide +kernel
theorem dX0_faultOf_11 : decode cX0_faultOf 11 = .ok (.istore_n 2, 1) := by decide +kernel
theorem dX0_faultOf_12 : decode cX0_faultOf 12 = .ok (.iload_n 2, 1) := by decide +kernel
theorem dX0_faultOf_13 : decode cX0_faultOf 13 = .ok (.aload_n 1, 1) := by decide +kernel
theorem dX0_faultOf_14 : decode cX0_faultOf 14 = .ok (.invokevirtual 18, 3) := by decide +kernel
theorem dX0_faultOf_17 : decode cX0_faultOf 17 = .ok (.if_icmp .ge 33, 3) := by decide +kernel
theorem dX0_faultOf_20 : decode cX0_faultOf 20 = .ok (.aload_n 0, 1) := by decide +kernel
theorem dX0_faultOf_21 : decode cX0_faultOf 21 = .ok (.aload_n 0, 1) := by decide +kernel
theorem dX0_faultOf_22 : decode cX0_faultOf 22 = .ok (.aload_n 1, 1) := by decide +kernel
theorem dX0_faultOf_23 : decode cX0_faultOf 23 = .ok (.iload_n 2, 1) := by decide +kernel
theorem dX0_faultOf_24 : decode cX0_faultOf 24 = .ok (.invokevirtual 24, 3) := by decide +kernel
theorem dX0_faultOf_27 : decode cX0_faultOf 27 = .ok (.invokevirtual 28, 3) := by decide +kernel
theorem dX0_faultOf_30 : decode cX0_faultOf 30 = .ok (.putfield 11, 3) := by decide +kernel
theorem dX0_faultOf_33 : decode cX0_faultOf 33 = .ok (.aload_n 0, 1) := by decide +kernel
theorem dX0_faultOf_34 : decode cX0_faultOf 34 = .ok (.getfield 11, 3) := by decide +kernel
theorem dX0_faultOf_37 : decode cX0_faultOf 37 = .ok (.bipush 7, 2) := by decide +kernel
theorem dX0_faultOf_39 : decode cX0_faultOf 39 = .ok (.if_icmp .ne 5, 3) := by decide +kernel
theorem dX0_faultOf_42 : decode cX0_faultOf 42 = .ok (.iload_n 2, 1) := by decide +kernel
theorem dX0_faultOf_43 : decode cX0_faultOf 43 = .ok (.ireturn, 1) := by decide +kernel
theorem dX0_faultOf_44 : decode cX0_faultOf 44 = .ok (.iinc 2 1, 3) := by decide +kernel
theorem dX0_faultOf_47 : decode cX0_faultOf 47 = .ok (.goto (-35), 3) := by decide +kernel
theorem dX0_faultOf_50 : decode cX0_faultOf 50 = .ok (.aload_n 0, 1) := by decide +kernel
theorem dX0_faultOf_51 : decode cX0_faultOf 51 = .ok (.getfield 11, 3) := by decide +kernel
theorem dX0_faultOf_54 : decode cX0_faultOf 54 = .ok (.bipush 6, 2) := by decide +kernel
theorem dX0_faultOf_56 : decode cX0_faultOf 56 = .ok (.if_icmp .ne 14, 3) := by decide +kernel
theorem dX0_faultOf_59 : decode cX0_faultOf 59 = .ok (.aload_n 0, 1) := by decide +kernel
theorem dX0_faultOf_60 : decode cX0_faultOf 60 = .ok (.getfield 15, 3) := by decide +kernel
theorem dX0_faultOf_63 : decode cX0_faultOf 63 = .ok (.ifCond .ne 7, 3) := by decide +kernel
theorem dX0_faultOf_66 : decode cX0_faultOf 66 = .ok (.iconst (-1), 1) := by decide +kernel
theorem dX0_faultOf_67 : decode cX0_faultOf 67 = .ok (.goto 7, 3) := by decide +kernel
theorem dX0_faultOf_70 : decode cX0_faultOf 70 = .ok (.aload_n 1, 1) := by decide +kernel
theorem dX0_faultOf_71 : decode cX0_faultOf 71 = .ok (.invokevirtual 18, 3) := by decide +kernel
theorem dX0_faultOf_74 : decode cX0_faultOf 74 = .ok (.ireturn, 1) := by decide +kernel
theorem dX0_next_0 : decode cX0_next 0 = .ok (.aload_n 0, 1) := by decide +kernel
theorem dX0_next_1 : decode cX0_next 1 = .ok (.getfield 11, 3) := by decide +kernel
theorem dX0_next_4 : decode cX0_next 4 = .ok (.tableswitch 107 0 5 #[40, 46, 60, 74, 80, 94], 40) := by decide +kernel
theorem dX0_next_44 : decode cX0_next 44 = .ok (.aload_n 0, 1) := by decide +kernel
theorem dX0_next_45 : decode cX0_next 45 = .ok (.iload_n 1, 1) := by decide +kernel
theorem dX0_next_46 : decode cX0_next 46 = .ok (.invokevirtual 32, 3) := by decide +kernel
theorem dX0_next_49 : decode cX0_next 49 = .ok (.ireturn, 1) := by decide +kernel
theorem dX0_next_50 : decode cX0_next 50 = .ok (.iload_n 1, 1) := by decide +kernel
theorem dX0_next_51 : decode cX0_next 51 = .ok (.invokestatic 35, 3) := by decide +kernel
theorem dX0_next_54 : decode cX0_next 54 = .ok (.ifCond .eq 7, 3) := by decide +kernel
theorem dX0_next_57 : decode cX0_next 57 = .ok (.iconst 5, 1) := by decide +kernel
theorem dX0_next_58 : decode cX0_next 58 = .ok (.goto 5, 3) := by decide +kernel
theorem dX0_next_61 : decode cX0_next 61 = .ok (.bipush 7, 2) := by decide +kernel
theorem dX0_next_63 : decode cX0_next 63 = .ok (.ireturn, 1) := by decide +kernel
theorem dX0_next_64 : decode cX0_next 64 = .ok (.iload_n 1, 1) := by decide +kernel
theorem dX0_next_65 : decode cX0_next 65 = .ok (.invokestatic 39, 3) := by decide +kernel
theorem dX0_next_68 : decode cX0_next 68 = .ok (.ifCond .eq 7, 3) := by decide +kernel
theorem dX0_next_71 : decode cX0_next 71 = .ok (.iconst 3, 1) := by decide +kernel
theorem dX0_next_72 : decode cX0_next 72 = .ok (.goto 5, 3) := by decide +kernel
theorem dX0_next_75 : decode cX0_next 75 = .ok (.bipush 7, 2) := by decide +kernel
theorem dX0_next_77 : decode cX0_next 77 = .ok (.ireturn, 1) := by decide +kernel
theorem dX0_next_78 : decode cX0_next 78 = .ok (.aload_n 0, 1) := by decide +kernel
theorem dX0_next_79 : decode cX0_next 79 = .ok (.iload_n 1, 1) := by decide +kernel
theorem dX0_next_80 : decode cX0_next 80 = .ok (.invokevirtual 42, 3) := by decide +kernel
theorem dX0_next_83 : decode cX0_next 83 = .ok (.ireturn, 1) := by decide +kernel
theorem dX0_next_84 : decode cX0_next 84 = .ok (.iload_n 1, 1) := by decide +kernel
theorem dX0_next_85 : decode cX0_next 85 = .ok (.invokestatic 45, 3) := by decide +kernel
theorem dX0_next_88 : decode cX0_next 88 = .ok (.ifCond .eq 7, 3) := by decide +kernel
theorem dX0_next_91 : decode cX0_next 91 = .ok (.iconst 5, 1) := by decide +kernel
theorem dX0_next_92 : decode cX0_next 92 = .ok (.goto 5, 3) := by decide +kernel
theorem dX0_next_95 : decode cX0_next 95 = .ok (.bipush 7, 2) := by decide +kernel
theorem dX0_next_97 : decode cX0_next 97 = .ok (.ireturn, 1) := by decide +kernel
theorem dX0_next_98 : decode cX0_next 98 = .ok (.iload_n 1, 1) := by decide +kernel
theorem dX0_next_99 : decode cX0_next 99 = .ok (.bipush 46, 2) := by decide +kernel
theorem dX0_next_101 : decode cX0_next 101 = .ok (.if_icmp .ne 7, 3) := by decide +kernel
theorem dX0_next_104 : decode cX0_next 104 = .ok (.iconst 0, 1) := by decide +kernel
theorem dX0_next_105 : decode cX0_next 105 = .ok (.goto 5, 3) := by decide +kernel
theorem dX0_next_108 : decode cX0_next 108 = .ok (.bipush 7, 2) := by decide +kernel
theorem dX0_next_110 : decode cX0_next 110 = .ok (.ireturn, 1) := by decide +kernel
theorem dX0_next_111 : decode cX0_next 111 = .ok (.aload_n 0, 1) := by decide +kernel
theorem dX0_next_112 : decode cX0_next 112 = .ok (.iload_n 1, 1) := by decide +kernel
theorem dX0_next_113 : decode cX0_next 113 = .ok (.invokevirtual 48, 3) := by decide +kernel
theorem dX0_next_116 : decode cX0_next 116 = .ok (.ireturn, 1) := by decide +kernel
theorem dX0_nextInProtocol_0 : decode cX0_nextInProtocol 0 = .ok (.iload_n 1, 1) := by decide +kernel
theorem dX0_nextInProtocol_1 : decode cX0_nextInProtocol 1 = .ok (.bipush 101, 2) := by decide +kernel
theorem dX0_nextInProtocol_3 : decode cX0_nextInProtocol 3 = .ok (.if_icmp .eq 10, 3) := by decide +kernel
theorem dX0_nextInProtocol_6 : decode cX0_nextInProtocol 6 = .ok (.iload_n 1, 1) := by decide +kernel
theorem dX0_nextInProtocol_7 : decode cX0_nextInProtocol 7 = .ok (.invokestatic 35, 3) := by decide +kernel
theorem dX0_nextInProtocol_10 : decode cX0_nextInProtocol 10 = .ok (.ifCond .eq 6, 3) := by decide +kernel
theorem dX0_nextInProtocol_13 : decode cX0_nextInProtocol 13 = .ok (.bipush 6, 2) := by decide +kernel
theorem dX0_nextInProtocol_15 : decode cX0_nextInProtocol 15 = .ok (.ireturn, 1) := by decide +kernel
theorem dX0_nextInProtocol_16 : decode cX0_nextInProtocol 16 = .ok (.iload_n 1, 1) := by decide +kernel
theorem dX0_nextInProtocol_17 : decode cX0_nextInProtocol 17 = .ok (.bipush 109, 2) := by decide +kernel
theorem dX0_nextInProtocol_19 : decode cX0_nextInProtocol 19 = .ok (.if_icmp .ne 5, 3) := by decide +kernel
theorem dX0_nextInProtocol_22 : decode cX0_nextInProtocol 22 = .ok (.iconst 1, 1) := by decide +kernel
theorem dX0_nextInProtocol_23 : decode cX0_nextInProtocol 23 = .ok (.ireturn, 1) := by decide +kernel
theorem dX0_nextInProtocol_24 : decode cX0_nextInProtocol 24 = .ok (.iload_n 1, 1) := by decide +kernel
theorem dX0_nextInProtocol_25 : decode cX0_nextInProtocol 25 = .ok (.invokestatic 39, 3) := by decide +kernel
theorem dX0_nextInProtocol_28 : decode cX0_nextInProtocol 28 = .ok (.ifCond .eq 7, 3) := by decide +kernel
theorem dX0_nextInProtocol_31 : decode cX0_nextInProtocol 31 = .ok (.iconst 2, 1) := by decide +kernel
theorem dX0_nextInProtocol_32 : decode cX0_nextInProtocol 32 = .ok (.goto 5, 3) := by decide +kernel
theorem dX0_nextInProtocol_35 : decode cX0_nextInProtocol 35 = .ok (.bipush 7, 2) := by decide +kernel
theorem dX0_nextInProtocol_37 : decode cX0_nextInProtocol 37 = .ok (.ireturn, 1) := by decide +kernel
theorem dX0_nextAtBrace_0 : decode cX0_nextAtBrace 0 = .ok (.iload_n 1, 1) := by decide +kernel
theorem dX0_nextAtBrace_1 : decode cX0_nextAtBrace 1 = .ok (.bipush 123, 2) := by decide +kernel
theorem dX0_nextAtBrace_3 : decode cX0_nextAtBrace 3 = .ok (.if_icmp .eq 6, 3) := by decide +kernel
theorem dX0_nextAtBrace_6 : decode cX0_nextAtBrace 6 = .ok (.bipush 7, 2) := by decide +kernel
theorem dX0_nextAtBrace_8 : decode cX0_nextAtBrace 8 = .ok (.ireturn, 1) := by decide +kernel
theorem dX0_nextAtBrace_9 : decode cX0_nextAtBrace 9 = .ok (.aload_n 0, 1) := by decide +kernel
theorem dX0_nextAtBrace_10 : decode cX0_nextAtBrace 10 = .ok (.dup, 1) := by decide +kernel
theorem dX0_nextAtBrace_11 : decode cX0_nextAtBrace 11 = .ok (.getfield 15, 3) := by decide +kernel
theorem dX0_nextAtBrace_14 : decode cX0_nextAtBrace 14 = .ok (.iconst 1, 1) := by decide +kernel
theorem dX0_nextAtBrace_15 : decode cX0_nextAtBrace 15 = .ok (.iadd, 1) := by decide +kernel
theorem dX0_nextAtBrace_16 : decode cX0_nextAtBrace 16 = .ok (.putfield 15, 3) := by decide +kernel
theorem dX0_nextAtBrace_19 : decode cX0_nextAtBrace 19 = .ok (.iconst 4, 1) := by decide +kernel
theorem dX0_nextAtBrace_20 : decode cX0_nextAtBrace 20 = .ok (.ireturn, 1) := by decide +kernel
theorem dX0_nextAfterProtocol_0 : decode cX0_nextAfterProtocol 0 = .ok (.aload_n 0, 1) := by decide +kernel
theorem dX0_nextAfterProtocol_1 : decode cX0_nextAfterProtocol 1 = .ok (.getfield 15, 3) := by decide +kernel
theorem dX0_nextAfterProtocol_4 : decode cX0_nextAfterProtocol 4 = .ok (.ifCond .ne 6, 3) := by decide +kernel
theorem dX0_nextAfterProtocol_7 : decode cX0_nextAfterProtocol 7 = .ok (.bipush 7, 2) := by decide +kernel
theorem dX0_nextAfterProtocol_9 : decode cX0_nextAfterProtocol 9 = .ok (.ireturn, 1) := by decide +kernel
theorem dX0_nextAfterProtocol_10 : decode cX0_nextAfterProtocol 10 = .ok (.iload_n 1, 1) := by decide +kernel
theorem dX0_nextAfterProtocol_11 : decode cX0_nextAfterProtocol 11 = .ok (.bipush 44, 2) := by decide +kernel
theorem dX0_nextAfterProtocol_13 : decode cX0_nextAfterProtocol 13 = .ok (.if_icmp .ne 5, 3) := by decide +kernel
theorem dX0_nextAfterProtocol_16 : decode cX0_nextAfterProtocol 16 = .ok (.iconst 4, 1) := by decide +kernel
theorem dX0_nextAfterProtocol_17 : decode cX0_nextAfterProtocol 17 = .ok (.ireturn, 1) := by decide +kernel
theorem dX0_nextAfterProtocol_18 : decode cX0_nextAfterProtocol 18 = .ok (.iload_n 1, 1) := by decide +kernel
theorem dX0_nextAfterProtocol_19 : decode cX0_nextAfterProtocol 19 = .ok (.bipush 125, 2) := by decide +kernel
theorem dX0_nextAfterProtocol_21 : decode cX0_nextAfterProtocol 21 = .ok (.if_icmp .eq 6, 3) := by decide +kernel
theorem dX0_nextAfterProtocol_24 : decode cX0_nextAfterProtocol 24 = .ok (.bipush 7, 2) := by decide +kernel
theorem dX0_nextAfterProtocol_26 : decode cX0_nextAfterProtocol 26 = .ok (.ireturn, 1) := by decide +kernel
theorem dX0_nextAfterProtocol_27 : decode cX0_nextAfterProtocol 27 = .ok (.aload_n 0, 1) := by decide +kernel
theorem dX0_nextAfterProtocol_28 : decode cX0_nextAfterProtocol 28 = .ok (.dup, 1) := by decide +kernel
theorem dX0_nextAfterProtocol_29 : decode cX0_nextAfterProtocol 29 = .ok (.getfield 15, 3) := by decide +kernel
theorem dX0_nextAfterProtocol_32 : decode cX0_nextAfterProtocol 32 = .ok (.iconst 1, 1) := by decide +kernel
theorem dX0_nextAfterProtocol_33 : decode cX0_nextAfterProtocol 33 = .ok (.isub, 1) := by decide +kernel
theorem dX0_nextAfterProtocol_34 : decode cX0_nextAfterProtocol 34 = .ok (.putfield 15, 3) := by decide +kernel
theorem dX0_nextAfterProtocol_37 : decode cX0_nextAfterProtocol 37 = .ok (.bipush 6, 2) := by decide +kernel
theorem dX0_nextAfterProtocol_39 : decode cX0_nextAfterProtocol 39 = .ok (.ireturn, 1) := by decide +kernel
theorem dX1_init_0 : decode cX1_init 0 = .ok (.aload_n 0, 1) := by decide +kernel
theorem dX1_init_1 : decode cX1_init 1 = .ok (.invokespecial 3, 3) := by decide +kernel
theorem dX1_init_4 : decode cX1_init 4 = .ok (.aload_n 0, 1) := by decide +kernel
theorem dX1_init_5 : decode cX1_init 5 = .ok (.iconst 0, 1) := by decide +kernel
theorem dX1_init_6 : decode cX1_init 6 = .ok (.putfield 9, 3) := by decide +kernel
theorem dX1_init_9 : decode cX1_init 9 = .ok (.aload_n 0, 1) := by decide +kernel
theorem dX1_init_10 : decode cX1_init 10 = .ok (.aload_n 1, 1) := by decide +kernel
theorem dX1_init_11 : decode cX1_init 11 = .ok (.putfield 15, 3) := by decide +kernel
theorem dX1_init_14 : decode cX1_init 14 = .ok (.aload_n 0, 1) := by decide +kernel
theorem dX1_init_15 : decode cX1_init 15 = .ok (.iload_n 2, 1) := by decide +kernel
theorem dX1_init_16 : decode cX1_init 16 = .ok (.putfield 19, 3) := by decide +kernel
theorem dX1_init_19 : decode cX1_init 19 = .ok (.aload_n 0, 1) := by decide +kernel
theorem dX1_init_20 : decode cX1_init 20 = .ok (.aload_n 3, 1) := by decide +kernel
theorem dX1_init_21 : decode cX1_init 21 = .ok (.putfield 23, 3) := by decide +kernel
theorem dX1_init_24 : decode cX1_init 24 = .ok (.return_, 1) := by decide +kernel
theorem dX1_writePart_0 : decode cX1_writePart 0 = .ok (.aload_n 0, 1) := by decide +kernel
theorem dX1_writePart_1 : decode cX1_writePart 1 = .ok (.iconst 0, 1) := by decide +kernel
theorem dX1_writePart_2 : decode cX1_writePart 2 = .ok (.putfield 9, 3) := by decide +kernel
theorem dX1_writePart_5 : decode cX1_writePart 5 = .ok (.aload_n 0, 1) := by decide +kernel
theorem dX1_writePart_6 : decode cX1_writePart 6 = .ok (.getfield 23, 3) := by decide +kernel
theorem dX1_writePart_9 : decode cX1_writePart 9 = .ok (.iconst 0, 1) := by decide +kernel
theorem dX1_writePart_10 : decode cX1_writePart 10 = .ok (.invokevirtual 26, 3) := by decide +kernel
theorem dX1_writePart_13 : decode cX1_writePart 13 = .ok (.aload_n 0, 1) := by decide +kernel
theorem dX1_writePart_14 : decode cX1_writePart 14 = .ok (.iconst 0, 1) := by decide +kernel
theorem dX1_writePart_15 : decode cX1_writePart 15 = .ok (.invokevirtual 32, 3) := by decide +kernel
theorem dX1_writePart_18 : decode cX1_writePart 18 = .ok (.ireturn, 1) := by decide +kernel
theorem dX1_writeProtocol_0 : decode cX1_writeProtocol 0 = .ok (.iload_n 1, 1) := by decide +kernel
theorem dX1_writeProtocol_1 : decode cX1_writeProtocol 1 = .ok (.bipush 40, 2) := by decide +kernel
theorem dX1_writeProtocol_3 : decode cX1_writeProtocol 3 = .ok (.if_icmp .le 5, 3) := by decide +kernel
theorem dX1_writeProtocol_6 : decode cX1_writeProtocol 6 = .ok (.iconst 0, 1) := by decide +kernel
theorem dX1_writeProtocol_7 : decode cX1_writeProtocol 7 = .ok (.ireturn, 1) := by decide +kernel
theorem dX1_writeProtocol_8 : decode cX1_writeProtocol 8 = .ok (.aload_n 0, 1) := by decide +kernel
theorem dX1_writeProtocol_9 : decode cX1_writeProtocol 9 = .ok (.getfield 15, 3) := by decide +kernel
theorem dX1_writeProtocol_12 : decode cX1_writeProtocol 12 = .ok (.aload_n 0, 1) := by decide +kernel
theorem dX1_writeProtocol_13 : decode cX1_writeProtocol 13 = .ok (.getfield 9, 3) := by decide +kernel
theorem dX1_writeProtocol_16 : decode cX1_writeProtocol 16 = .ok (.invokevirtual 36, 3) := by decide +kernel
theorem dX1_writeProtocol_19 : decode cX1_writeProtocol 19 = .ok (.istore_n 2, 1) := by decide +kernel
theorem dX1_writeProtocol_20 : decode cX1_writeProtocol 20 = .ok (.iload_n 2, 1) := by decide +kernel
theorem dX1_writeProtocol_21 : decode cX1_writeProtocol 21 = .ok (.bipush 109, 2) := by decide +kernel
theorem dX1_writeProtocol_23 : decode cX1_writeProtocol 23 = .ok (.if_icmp .ne 9, 3) := by decide +kernel
theorem dX1_writeProtocol_26 : decode cX1_writeProtocol 26 = .ok (.aload_n 0, 1) := by decide +kernel
theorem dX1_writeProtocol_27 : decode cX1_writeProtocol 27 = .ok (.iload_n 1, 1) := by decide +kernel
theorem dX1_writeProtocol_28 : decode cX1_writeProtocol 28 = .ok (.invokevirtual 40, 3) := by decide +kernel
theorem dX1_writeProtocol_31 : decode cX1_writeProtocol 31 = .ok (.ireturn, 1) := by decide +kernel
theorem dX1_writeProtocol_32 : decode cX1_writeProtocol 32 = .ok (.iload_n 2, 1) := by decide +kernel
theorem dX1_writeProtocol_33 : decode cX1_writeProtocol 33 = .ok (.invokestatic 43, 3) := by decide +kernel
theorem dX1_writeProtocol_36 : decode cX1_writeProtocol 36 = .ok (.ifCond .eq 9, 3) := by decide +kernel
theorem dX1_writeProtocol_39 : decode cX1_writeProtocol 39 = .ok (.aload_n 0, 1) := by decide +kernel
theorem dX1_writeProtocol_40 : decode cX1_writeProtocol 40 = .ok (.iload_n 1, 1) := by decide +kernel
theorem dX1_writeProtocol_41 : decode cX1_writeProtocol 41 = .ok (.invokevirtual 47, 3) := by decide +kernel
theorem dX1_writeProtocol_44 : decode cX1_writeProtocol 44 = .ok (.ireturn, 1) := by decide +kernel
theorem dX1_writeProtocol_45 : decode cX1_writeProtocol 45 = .ok (.aload_n 0, 1) := by decide +kernel
theorem dX1_writeProtocol_46 : decode cX1_writeProtocol 46 = .ok (.dup, 1) := by decide +kernel
theorem dX1_writeProtocol_47 : decode cX1_writeProtocol 47 = .ok (.getfield 9, 3) := by decide +kernel
theorem dX1_writeProtocol_50 : decode cX1_writeProtocol 50 = .ok (.iconst 1, 1) := by decide +kernel
theorem dX1_writeProtocol_51 : decode cX1_writeProtocol 51 = .ok (.iadd, 1) := by decide +kernel
theorem dX1_writeProtocol_52 : decode cX1_writeProtocol 52 = .ok (.putfield 9, 3) := by decide +kernel
theorem dX1_writeProtocol_55 : decode cX1_writeProtocol 55 = .ok (.aload_n 0, 1) := by decide +kernel
theorem dX1_writeProtocol_56 : decode cX1_writeProtocol 56 = .ok (.getfield 23, 3) := by decide +kernel
theorem dX1_writeProtocol_59 : decode cX1_writeProtocol 59 = .ok (.iload_n 2, 1) := by decide +kernel
theorem dX1_writeProtocol_60 : decode cX1_writeProtocol 60 = .ok (.invokevirtual 50, 3) := by decide +kernel
theorem dX1_writeProtocol_63 : decode cX1_writeProtocol 63 = .ok (.ireturn, 1) := by decide +kernel
theorem dX1_writeLoop_0 : decode cX1_writeLoop 0 = .ok (.aload_n 0, 1) := by decide +kernel
theorem dX1_writeLoop_1 : decode cX1_writeLoop 1 = .ok (.getfield 15, 3) := by decide +kernel
theorem dX1_writeLoop_4 : decode cX1_writeLoop 4 = .ok (.aload_n 0, 1) := by decide +kernel
theorem dX1_writeLoop_5 : decode cX1_writeLoop 5 = .ok (.getfield 9, 3) := by decide +kernel
theorem dX1_writeLoop_8 : decode cX1_writeLoop 8 = .ok (.iconst 1, 1) := by decide +kernel
theorem dX1_writeLoop_9 : decode cX1_writeLoop 9 = .ok (.iadd, 1) := by decide +kernel
theorem dX1_writeLoop_10 : decode cX1_writeLoop 10 = .ok (.invokevirtual 36, 3) := by decide +kernel
theorem dX1_writeLoop_13 : decode cX1_writeLoop 13 = .ok (.istore_n 2, 1) := by decide +kernel
theorem dX1_writeLoop_14 : decode cX1_writeLoop 14 = .ok (.aload_n 0, 1) := by decide +kernel
theorem dX1_writeLoop_15 : decode cX1_writeLoop 15 = .ok (.getfield 23, 3) := by decide +kernel
theorem dX1_writeLoop_18 : decode cX1_writeLoop 18 = .ok (.invokevirtual 53, 3) := by decide +kernel
theorem dX1_writeLoop_21 : decode cX1_writeLoop 21 = .ok (.istore_n 3, 1) := by decide +kernel
theorem dX1_writeLoop_22 : decode cX1_writeLoop 22 = .ok (.aload_n 0, 1) := by decide +kernel
theorem dX1_writeLoop_23 : decode cX1_writeLoop 23 = .ok (.dup, 1) := by decide +kernel
theorem dX1_writeLoop_24 : decode cX1_writeLoop 24 = .ok (.getfield 9, 3) := by decide +kernel
theorem dX1_writeLoop_27 : decode cX1_writeLoop 27 = .ok (.iconst 3, 1) := by decide +kernel
theorem dX1_writeLoop_28 : decode cX1_writeLoop 28 = .ok (.iadd, 1) := by decide +kernel
theorem dX1_writeLoop_29 : decode cX1_writeLoop 29 = .ok (.putfield 9, 3) := by decide +kernel
theorem dX1_writeLoop_32 : decode cX1_writeLoop 32 = .ok (.aload_n 0, 1) := by decide +kernel
theorem dX1_writeLoop_33 : decode cX1_writeLoop 33 = .ok (.iload_n 1, 1) := by decide +kernel
theorem dX1_writeLoop_34 : decode cX1_writeLoop 34 = .ok (.iconst 1, 1) := by decide +kernel
theorem dX1_writeLoop_35 : decode cX1_writeLoop 35 = .ok (.iadd, 1) := by decide +kernel
theorem dX1_writeLoop_36 : decode cX1_writeLoop 36 = .ok (.invokevirtual 32, 3) := by decide +kernel
theorem dX1_writeLoop_39 : decode cX1_writeLoop 39 = .ok (.ifCond .eq 16, 3) := by decide +kernel
theorem dX1_writeLoop_42 : decode cX1_writeLoop 42 = .ok (.aload_n 0, 1) := by decide +kernel
theorem dX1_writeLoop_43 : decode cX1_writeLoop 43 = .ok (.iload_n 3, 1) := by decide +kernel
theorem dX1_writeLoop_44 : decode cX1_writeLoop 44 = .ok (.iload_n 2, 1) := by decide +kernel
theorem dX1_writeLoop_45 : decode cX1_writeLoop 45 = .ok (.invokevirtual 57, 3) := by decide +kernel
theorem dX1_writeLoop_48 : decode cX1_writeLoop 48 = .ok (.ifCond .eq 7, 3) := by decide +kernel
theorem dX1_writeLoop_51 : decode cX1_writeLoop 51 = .ok (.iconst 1, 1) := by decide +kernel
theorem dX1_writeLoop_52 : decode cX1_writeLoop 52 = .ok (.goto 4, 3) := by decide +kernel
theorem dX1_writeLoop_55 : decode cX1_writeLoop 55 = .ok (.iconst 0, 1) := by decide +kernel
theorem dX1_writeLoop_56 : decode cX1_writeLoop 56 = .ok (.ireturn, 1) := by decide +kernel
theorem dX1_closeLoop_0 : decode cX1_closeLoop 0 = .ok (.aload_n 0, 1) := by decide +kernel
theorem dX1_closeLoop_1 : decode cX1_closeLoop 1 = .ok (.getfield 23, 3) := by decide +kernel
theorem dX1_closeLoop_4 : decode cX1_closeLoop 4 = .ok (.invokevirtual 53, 3) := by decide +kernel
theorem dX1_closeLoop_7 : decode cX1_closeLoop 7 = .ok (.iload_n 1, 1) := by decide +kernel
theorem dX1_closeLoop_8 : decode cX1_closeLoop 8 = .ok (.iconst 1, 1) := by decide +kernel
theorem dX1_closeLoop_9 : decode cX1_closeLoop 9 = .ok (.iadd, 1) := by decide +kernel
theorem dX1_closeLoop_10 : decode cX1_closeLoop 10 = .ok (.if_icmp .ne 33, 3) := by decide +kernel
theorem dX1_closeLoop_13 : decode cX1_closeLoop 13 = .ok (.aload_n 0, 1) := by decide +kernel
theorem dX1_closeLoop_14 : decode cX1_closeLoop 14 = .ok (.getfield 23, 3) := by decide +kernel
theorem dX1_closeLoop_17 : decode cX1_closeLoop 17 = .ok (.iload_n 1, 1) := by decide +kernel
theorem dX1_closeLoop_18 : decode cX1_closeLoop 18 = .ok (.invokevirtual 36, 3) := by decide +kernel
theorem dX1_closeLoop_21 : decode cX1_closeLoop 21 = .ok (.iload_n 2, 1) := by decide +kernel
theorem dX1_closeLoop_22 : decode cX1_closeLoop 22 = .ok (.if_icmp .ne 21, 3) := by decide +kernel
theorem dX1_closeLoop_25 : decode cX1_closeLoop 25 = .ok (.aload_n 0, 1) := by decide +kernel
theorem dX1_closeLoop_26 : decode cX1_closeLoop 26 = .ok (.getfield 23, 3) := by decide +kernel
theorem dX1_closeLoop_29 : decode cX1_closeLoop 29 = .ok (.iload_n 1, 1) := by decide +kernel
theorem dX1_closeLoop_30 : decode cX1_closeLoop 30 = .ok (.invokevirtual 26, 3) := by decide +kernel
theorem dX1_closeLoop_33 : decode cX1_closeLoop 33 = .ok (.aload_n 0, 1) := by decide +kernel
theorem dX1_closeLoop_34 : decode cX1_closeLoop 34 = .ok (.getfield 23, 3) := by decide +kernel
theorem dX1_closeLoop_37 : decode cX1_closeLoop 37 = .ok (.bipush 101, 2) := by decide +kernel
theorem dX1_closeLoop_39 : decode cX1_closeLoop 39 = .ok (.invokevirtual 50, 3) := by decide +kernel
theorem dX1_closeLoop_42 : decode cX1_closeLoop 42 = .ok (.ireturn, 1) := by decide +kernel
theorem dX1_closeLoop_43 : decode cX1_closeLoop 43 = .ok (.aload_n 0, 1) := by decide +kernel
theorem dX1_closeLoop_44 : decode cX1_closeLoop 44 = .ok (.getfield 23, 3) := by decide +kernel
theorem dX1_closeLoop_47 : decode cX1_closeLoop 47 = .ok (.iload_n 1, 1) := by decide +kernel
theorem dX1_closeLoop_48 : decode cX1_closeLoop 48 = .ok (.iload_n 2, 1) := by decide +kernel
theorem dX1_closeLoop_49 : decode cX1_closeLoop 49 = .ok (.invokevirtual 61, 3) := by decide +kernel
theorem dX1_closeLoop_52 : decode cX1_closeLoop 52 = .ok (.ifCond .ne 5, 3) := by decide +kernel
theorem dX1_closeLoop_55 : decode cX1_closeLoop 55 = .ok (.iconst 1, 1) := by decide +kernel
theorem dX1_closeLoop_56 : decode cX1_closeLoop 56 = .ok (.ireturn, 1) := by decide +kernel
theorem dX1_closeLoop_57 : decode cX1_closeLoop 57 = .ok (.aload_n 0, 1) := by decide +kernel
theorem dX1_closeLoop_58 : decode cX1_closeLoop 58 = .ok (.getfield 23, 3) := by decide +kernel
theorem dX1_closeLoop_61 : decode cX1_closeLoop 61 = .ok (.iload_n 1, 1) := by decide +kernel
theorem dX1_closeLoop_62 : decode cX1_closeLoop 62 = .ok (.bipush 46, 2) := by decide +kernel
theorem dX1_closeLoop_64 : decode cX1_closeLoop 64 = .ok (.invokevirtual 64, 3) := by decide +kernel
theorem dX1_closeLoop_67 : decode cX1_closeLoop 67 = .ok (.ifCond .eq 32, 3) := by decide +kernel
theorem dX1_closeLoop_70 : decode cX1_closeLoop 70 = .ok (.aload_n 0, 1) := by decide +kernel
theorem dX1_closeLoop_71 : decode cX1_closeLoop 71 = .ok (.getfield 23, 3) := by decide +kernel
theorem dX1_closeLoop_74 : decode cX1_closeLoop 74 = .ok (.iload_n 1, 1) := by decide +kernel
theorem dX1_closeLoop_75 : decode cX1_closeLoop 75 = .ok (.iload_n 2, 1) := by decide +kernel
theorem dX1_closeLoop_76 : decode cX1_closeLoop 76 = .ok (.invokevirtual 64, 3) := by decide +kernel
theorem dX1_closeLoop_79 : decode cX1_closeLoop 79 = .ok (.ifCond .eq 20, 3) := by decide +kernel
theorem dX1_closeLoop_82 : decode cX1_closeLoop 82 = .ok (.aload_n 0, 1) := by decide +kernel
theorem dX1_closeLoop_83 : decode cX1_closeLoop 83 = .ok (.getfield 23, 3) := by decide +kernel
theorem dX1_closeLoop_86 : decode cX1_closeLoop 86 = .ok (.iload_n 1, 1) := by decide +kernel
theorem dX1_closeLoop_87 : decode cX1_closeLoop 87 = .ok (.bipush 109, 2) := by decide +kernel
theorem dX1_closeLoop_89 : decode cX1_closeLoop 89 = .ok (.invokevirtual 64, 3) := by decide +kernel
theorem dX1_closeLoop_92 : decode cX1_closeLoop 92 = .ok (.ifCond .eq 7, 3) := by decide +kernel
theorem dX1_closeLoop_95 : decode cX1_closeLoop 95 = .ok (.iconst 1, 1) := by decide +kernel
theorem dX1_closeLoop_96 : decode cX1_closeLoop 96 = .ok (.goto 4, 3) := by decide +kernel
theorem dX1_closeLoop_99 : decode cX1_closeLoop 99 = .ok (.iconst 0, 1) := by decide +kernel
theorem dX1_closeLoop_100 : decode cX1_closeLoop 100 = .ok (.ireturn, 1) := by decide +kernel
theorem dX1_writeMessage_0 : decode cX1_writeMessage 0 = .ok (.aload_n 0, 1) := by decide +kernel
theorem dX1_writeMessage_1 : decode cX1_writeMessage 1 = .ok (.getfield 15, 3) := by decide +kernel
theorem dX1_writeMessage_4 : decode cX1_writeMessage 4 = .ok (.aload_n 0, 1) := by decide +kernel
theorem dX1_writeMessage_5 : decode cX1_writeMessage 5 = .ok (.getfield 9, 3) := by decide +kernel
theorem dX1_writeMessage_8 : decode cX1_writeMessage 8 = .ok (.invokevirtual 36, 3) := by decide +kernel
theorem dX1_writeMessage_11 : decode cX1_writeMessage 11 = .ok (.istore_n 2, 1) := by decide +kernel
theorem dX1_writeMessage_12 : decode cX1_writeMessage 12 = .ok (.aload_n 0, 1) := by decide +kernel
theorem dX1_writeMessage_13 : decode cX1_writeMessage 13 = .ok (.getfield 15, 3) := by decide +kernel
theorem dX1_writeMessage_16 : decode cX1_writeMessage 16 = .ok (.aload_n 0, 1) := by decide +kernel
theorem dX1_writeMessage_17 : decode cX1_writeMessage 17 = .ok (.getfield 9, 3) := by decide +kernel
theorem dX1_writeMessage_20 : decode cX1_writeMessage 20 = .ok (.iconst 1, 1) := by decide +kernel
theorem dX1_writeMessage_21 : decode cX1_writeMessage 21 = .ok (.iadd, 1) := by decide +kernel
theorem dX1_writeMessage_22 : decode cX1_writeMessage 22 = .ok (.invokevirtual 36, 3) := by decide +kernel
theorem dX1_writeMessage_25 : decode cX1_writeMessage 25 = .ok (.istore_n 3, 1) := by decide +kernel
theorem dX1_writeMessage_26 : decode cX1_writeMessage 26 = .ok (.aload_n 0, 1) := by decide +kernel
theorem dX1_writeMessage_27 : decode cX1_writeMessage 27 = .ok (.dup, 1) := by decide +kernel
theorem dX1_writeMessage_28 : decode cX1_writeMessage 28 = .ok (.getfield 9, 3) := by decide +kernel
theorem dX1_writeMessage_31 : decode cX1_writeMessage 31 = .ok (.iconst 2, 1) := by decide +kernel
theorem dX1_writeMessage_32 : decode cX1_writeMessage 32 = .ok (.iadd, 1) := by decide +kernel
theorem dX1_writeMessage_33 : decode cX1_writeMessage 33 = .ok (.putfield 9, 3) := by decide +kernel
theorem dX1_writeMessage_36 : decode cX1_writeMessage 36 = .ok (.aload_n 0, 1) := by decide +kernel
theorem dX1_writeMessage_37 : decode cX1_writeMessage 37 = .ok (.getfield 19, 3) := by decide +kernel
theorem dX1_writeMessage_40 : decode cX1_writeMessage 40 = .ok (.iload_n 2, 1) := by decide +kernel
theorem dX1_writeMessage_41 : decode cX1_writeMessage 41 = .ok (.if_icmp .ne 40, 3) := by decide +kernel
theorem dX1_writeMessage_44 : decode cX1_writeMessage 44 = .ok (.aload_n 0, 1) := by decide +kernel
theorem dX1_writeMessage_45 : decode cX1_writeMessage 45 = .ok (.getfield 23, 3) := by decide +kernel
theorem dX1_writeMessage_48 : decode cX1_writeMessage 48 = .ok (.iload_n 3, 1) := by decide +kernel
theorem dX1_writeMessage_49 : decode cX1_writeMessage 49 = .ok (.invokevirtual 50, 3) := by decide +kernel
theorem dX1_writeMessage_52 : decode cX1_writeMessage 52 = .ok (.ifCond .eq 27, 3) := by decide +kernel
theorem dX1_writeMessage_55 : decode cX1_writeMessage 55 = .ok (.aload_n 0, 1) := by decide +kernel
theorem dX1_writeMessage_56 : decode cX1_writeMessage 56 = .ok (.getfield 23, 3) := by decide +kernel
theorem dX1_writeMessage_59 : decode cX1_writeMessage 59 = .ok (.bipush 33, 2) := by decide +kernel
theorem dX1_writeMessage_61 : decode cX1_writeMessage 61 = .ok (.invokevirtual 50, 3) := by decide +kernel
theorem dX1_writeMessage_64 : decode cX1_writeMessage 64 = .ok (.ifCond .eq 15, 3) := by decide +kernel
theorem dX1_writeMessage_67 : decode cX1_writeMessage 67 = .ok (.aload_n 0, 1) := by decide +kernel
theorem dX1_writeMessage_68 : decode cX1_writeMessage 68 = .ok (.iload_n 1, 1) := by decide +kernel
theorem dX1_writeMessage_69 : decode cX1_writeMessage 69 = .ok (.invokevirtual 67, 3) := by decide +kernel
theorem dX1_writeMessage_72 : decode cX1_writeMessage 72 = .ok (.ifCond .eq 7, 3) := by decide +kernel
theorem dX1_writeMessage_75 : decode cX1_writeMessage 75 = .ok (.iconst 1, 1) := by decide +kernel
theorem dX1_writeMessage_76 : decode cX1_writeMessage 76 = .ok (.goto 4, 3) := by decide +kernel
theorem dX1_writeMessage_79 : decode cX1_writeMessage 79 = .ok (.iconst 0, 1) := by decide +kernel
theorem dX1_writeMessage_80 : decode cX1_writeMessage 80 = .ok (.ireturn, 1) := by decide +kernel
theorem dX1_writeMessage_81 : decode cX1_writeMessage 81 = .ok (.aload_n 0, 1) := by decide +kernel
theorem dX1_writeMessage_82 : decode cX1_writeMessage 82 = .ok (.getfield 19, 3) := by decide +kernel
theorem dX1_writeMessage_85 : decode cX1_writeMessage 85 = .ok (.iload_n 3, 1) := by decide +kernel
theorem dX1_writeMessage_86 : decode cX1_writeMessage 86 = .ok (.if_icmp .ne 40, 3) := by decide +kernel
theorem dX1_writeMessage_89 : decode cX1_writeMessage 89 = .ok (.aload_n 0, 1) := by decide +kernel
theorem dX1_writeMessage_90 : decode cX1_writeMessage 90 = .ok (.getfield 23, 3) := by decide +kernel
theorem dX1_writeMessage_93 : decode cX1_writeMessage 93 = .ok (.iload_n 2, 1) := by decide +kernel
theorem dX1_writeMessage_94 : decode cX1_writeMessage 94 = .ok (.invokevirtual 50, 3) := by decide +kernel
theorem dX1_writeMessage_97 : decode cX1_writeMessage 97 = .ok (.ifCond .eq 27, 3) := by decide +kernel
theorem dX1_writeMessage_100 : decode cX1_writeMessage 100 = .ok (.aload_n 0, 1) := by decide +kernel
theorem dX1_writeMessage_101 : decode cX1_writeMessage 101 = .ok (.getfield 23, 3) := by decide +kernel
theorem dX1_writeMessage_104 : decode cX1_writeMessage 104 = .ok (.bipush 63, 2) := by decide +kernel
theorem dX1_writeMessage_106 : decode cX1_writeMessage 106 = .ok (.invokevirtual 50, 3) := by decide +kernel
theorem dX1_writeMessage_109 : decode cX1_writeMessage 109 = .ok (.ifCond .eq 15, 3) := by decide +kernel
theorem dX1_writeMessage_112 : decode cX1_writeMessage 112 = .ok (.aload_n 0, 1) := by decide +kernel
theorem dX1_writeMessage_113 : decode cX1_writeMessage 113 = .ok (.iload_n 1, 1) := by decide +kernel
theorem dX1_writeMessage_114 : decode cX1_writeMessage 114 = .ok (.invokevirtual 67, 3) := by decide +kernel
theorem dX1_writeMessage_117 : decode cX1_writeMessage 117 = .ok (.ifCond .eq 7, 3) := by decide +kernel
theorem dX1_writeMessage_120 : decode cX1_writeMessage 120 = .ok (.iconst 1, 1) := by decide +kernel
theorem dX1_writeMessage_121 : decode cX1_writeMessage 121 = .ok (.goto 4, 3) := by decide +kernel
theorem dX1_writeMessage_124 : decode cX1_writeMessage 124 = .ok (.iconst 0, 1) := by decide +kernel
theorem dX1_writeMessage_125 : decode cX1_writeMessage 125 = .ok (.ireturn, 1) := by decide +kernel
theorem dX1_writeMessage_126 : decode cX1_writeMessage 126 = .ok (.aload_n 0, 1) := by decide +kernel
theorem dX1_writeMessage_127 : decode cX1_writeMessage 127 = .ok (.iload_n 1, 1) := by decide +kernel
theorem dX1_writeMessage_128 : decode cX1_writeMessage 128 = .ok (.invokevirtual 70, 3) := by decide +kernel
theorem dX1_writeMessage_131 : decode cX1_writeMessage 131 = .ok (.ireturn, 1) := by decide +kernel
theorem dX1_writeOwnBranches_0 : decode cX1_writeOwnBranches 0 = .ok (.iconst 0, 1) := by decide +kernel
theorem dX1_writeOwnBranches_1 : decode cX1_writeOwnBranches 1 = .ok (.istore_n 2, 1) := by decide +kernel
theorem dX1_writeOwnBranches_2 : decode cX1_writeOwnBranches 2 = .ok (.iload_n 2, 1) := by decide +kernel
theorem dX1_writeOwnBranches_3 : decode cX1_writeOwnBranches 3 = .ok (.bipush 60, 2) := by decide +kernel
theorem dX1_writeOwnBranches_5 : decode cX1_writeOwnBranches 5 = .ok (.if_icmp .ge 81, 3) := by decide +kernel
theorem dX1_writeOwnBranches_8 : decode cX1_writeOwnBranches 8 = .ok (.aload_n 0, 1) := by decide +kernel
theorem dX1_writeOwnBranches_9 : decode cX1_writeOwnBranches 9 = .ok (.getfield 15, 3) := by decide +kernel
theorem dX1_writeOwnBranches_12 : decode cX1_writeOwnBranches 12 = .ok (.aload_n 0, 1) := by decide +kernel
theorem dX1_writeOwnBranches_13 : decode cX1_writeOwnBranches 13 = .ok (.getfield 9, 3) := by decide +kernel
theorem dX1_writeOwnBranches_16 : decode cX1_writeOwnBranches 16 = .ok (.invokevirtual 36, 3) := by decide +kernel
theorem dX1_writeOwnBranches_19 : decode cX1_writeOwnBranches 19 = .ok (.bipush 125, 2) := by decide +kernel
theorem dX1_writeOwnBranches_21 : decode cX1_writeOwnBranches 21 = .ok (.if_icmp .eq 65, 3) := by decide +kernel
theorem dX1_writeOwnBranches_24 : decode cX1_writeOwnBranches 24 = .ok (.iconst 0, 1) := by decide +kernel
theorem dX1_writeOwnBranches_25 : decode cX1_writeOwnBranches 25 = .ok (.istore_n 3, 1) := by decide +kernel
theorem dX1_writeOwnBranches_26 : decode cX1_writeOwnBranches 26 = .ok (.iload_n 3, 1) := by decide +kernel
theorem dX1_writeOwnBranches_27 : decode cX1_writeOwnBranches 27 = .ok (.iconst 3, 1) := by decide +kernel
theorem dX1_writeOwnBranches_28 : decode cX1_writeOwnBranches 28 = .ok (.if_icmp .ge 30, 3) := by decide +kernel
theorem dX1_writeOwnBranches_31 : decode cX1_writeOwnBranches 31 = .ok (.aload_n 0, 1) := by decide +kernel
theorem dX1_writeOwnBranches_32 : decode cX1_writeOwnBranches 32 = .ok (.getfield 23, 3) := by decide +kernel
theorem dX1_writeOwnBranches_35 : decode cX1_writeOwnBranches 35 = .ok (.aload_n 0, 1) := by decide +kernel
theorem dX1_writeOwnBranches_36 : decode cX1_writeOwnBranches 36 = .ok (.getfield 15, 3) := by decide +kernel
theorem dX1_writeOwnBranches_39 : decode cX1_writeOwnBranches 39 = .ok (.aload_n 0, 1) := by decide +kernel
theorem dX1_writeOwnBranches_40 : decode cX1_writeOwnBranches 40 = .ok (.getfield 9, 3) := by decide +kernel
theorem dX1_writeOwnBranches_43 : decode cX1_writeOwnBranches 43 = .ok (.iload_n 3, 1) := by decide +kernel
theorem dX1_writeOwnBranches_44 : decode cX1_writeOwnBranches 44 = .ok (.iadd, 1) := by decide +kernel
theorem dX1_writeOwnBranches_45 : decode cX1_writeOwnBranches 45 = .ok (.invokevirtual 36, 3) := by decide +kernel
theorem dX1_writeOwnBranches_48 : decode cX1_writeOwnBranches 48 = .ok (.invokevirtual 50, 3) := by decide +kernel
theorem dX1_writeOwnBranches_51 : decode cX1_writeOwnBranches 51 = .ok (.pop, 1) := by decide +kernel
theorem dX1_writeOwnBranches_52 : decode cX1_writeOwnBranches 52 = .ok (.iinc 3 1, 3) := by decide +kernel
theorem dX1_writeOwnBranches_55 : decode cX1_writeOwnBranches 55 = .ok (.goto (-29), 3) := by decide +kernel
theorem dX1_writeOwnBranches_58 : decode cX1_writeOwnBranches 58 = .ok (.aload_n 0, 1) := by decide +kernel
theorem dX1_writeOwnBranches_59 : decode cX1_writeOwnBranches 59 = .ok (.dup, 1) := by decide +kernel
theorem dX1_writeOwnBranches_60 : decode cX1_writeOwnBranches 60 = .ok (.getfield 9, 3) := by decide +kernel
theorem dX1_writeOwnBranches_63 : decode cX1_writeOwnBranches 63 = .ok (.iconst 3, 1) := by decide +kernel
theorem dX1_writeOwnBranches_64 : decode cX1_writeOwnBranches 64 = .ok (.iadd, 1) := by decide +kernel
theorem dX1_writeOwnBranches_65 : decode cX1_writeOwnBranches 65 = .ok (.putfield 9, 3) := by decide +kernel
theorem dX1_writeOwnBranches_68 : decode cX1_writeOwnBranches 68 = .ok (.aload_n 0, 1) := by decide +kernel
theorem dX1_writeOwnBranches_69 : decode cX1_writeOwnBranches 69 = .ok (.iload_n 1, 1) := by decide +kernel
theorem dX1_writeOwnBranches_70 : decode cX1_writeOwnBranches 70 = .ok (.iconst 1, 1) := by decide +kernel
theorem dX1_writeOwnBranches_71 : decode cX1_writeOwnBranches 71 = .ok (.iadd, 1) := by decide +kernel
theorem dX1_writeOwnBranches_72 : decode cX1_writeOwnBranches 72 = .ok (.invokevirtual 32, 3) := by decide +kernel
theorem dX1_writeOwnBranches_75 : decode cX1_writeOwnBranches 75 = .ok (.ifCond .ne 5, 3) := by decide +kernel
theorem dX1_writeOwnBranches_78 : decode cX1_writeOwnBranches 78 = .ok (.iconst 0, 1) := by decide +kernel
theorem dX1_writeOwnBranches_79 : decode cX1_writeOwnBranches 79 = .ok (.ireturn, 1) := by decide +kernel
theorem dX1_writeOwnBranches_80 : decode cX1_writeOwnBranches 80 = .ok (.iinc 2 1, 3) := by decide +kernel
theorem dX1_writeOwnBranches_83 : decode cX1_writeOwnBranches 83 = .ok (.goto (-81), 3) := by decide +kernel
theorem dX1_writeOwnBranches_86 : decode cX1_writeOwnBranches 86 = .ok (.aload_n 0, 1) := by decide +kernel
theorem dX1_writeOwnBranches_87 : decode cX1_writeOwnBranches 87 = .ok (.dup, 1) := by decide +kernel
theorem dX1_writeOwnBranches_88 : decode cX1_writeOwnBranches 88 = .ok (.getfield 9, 3) := by decide +kernel
theorem dX1_writeOwnBranches_91 : decode cX1_writeOwnBranches 91 = .ok (.iconst 1, 1) := by decide +kernel
theorem dX1_writeOwnBranches_92 : decode cX1_writeOwnBranches 92 = .ok (.iadd, 1) := by decide +kernel
theorem dX1_writeOwnBranches_93 : decode cX1_writeOwnBranches 93 = .ok (.putfield 9, 3) := by decide +kernel
theorem dX1_writeOwnBranches_96 : decode cX1_writeOwnBranches 96 = .ok (.aload_n 0, 1) := by decide +kernel
theorem dX1_writeOwnBranches_97 : decode cX1_writeOwnBranches 97 = .ok (.getfield 23, 3) := by decide +kernel
theorem dX1_writeOwnBranches_100 : decode cX1_writeOwnBranches 100 = .ok (.bipush 125, 2) := by decide +kernel
theorem dX1_writeOwnBranches_102 : decode cX1_writeOwnBranches 102 = .ok (.invokevirtual 50, 3) := by decide +kernel
theorem dX1_writeOwnBranches_105 : decode cX1_writeOwnBranches 105 = .ok (.ireturn, 1) := by decide +kernel
theorem dX1_writeCommonPart_0 : decode cX1_writeCommonPart 0 = .ok (.aload_n 0, 1) := by decide +kernel
theorem dX1_writeCommonPart_1 : decode cX1_writeCommonPart 1 = .ok (.getfield 23, 3) := by decide +kernel
theorem dX1_writeCommonPart_4 : decode cX1_writeCommonPart 4 = .ok (.invokevirtual 53, 3) := by decide +kernel
theorem dX1_writeCommonPart_7 : decode cX1_writeCommonPart 7 = .ok (.istore_n 2, 1) := by decide +kernel
theorem dX1_writeCommonPart_8 : decode cX1_writeCommonPart 8 = .ok (.iload_n 2, 1) := by decide +kernel
theorem dX1_writeCommonPart_9 : decode cX1_writeCommonPart 9 = .ok (.istore_n 3, 1) := by decide +kernel
theorem dX1_writeCommonPart_10 : decode cX1_writeCommonPart 10 = .ok (.iconst 0, 1) := by decide +kernel
theorem dX1_writeCommonPart_11 : decode cX1_writeCommonPart 11 = .ok (.istore 4, 2) := by decide +kernel
theorem dX1_writeCommonPart_13 : decode cX1_writeCommonPart 13 = .ok (.iload 4, 2) := by decide +kernel
theorem dX1_writeCommonPart_15 : decode cX1_writeCommonPart 15 = .ok (.bipush 60, 2) := by decide +kernel
theorem dX1_writeCommonPart_17 : decode cX1_writeCommonPart 17 = .ok (.if_icmp .ge 85, 3) := by decide +kernel
theorem dX1_writeCommonPart_20 : decode cX1_writeCommonPart 20 = .ok (.aload_n 0, 1) := by decide +kernel
theorem dX1_writeCommonPart_21 : decode cX1_writeCommonPart 21 = .ok (.getfield 15, 3) := by decide +kernel
theorem dX1_writeCommonPart_24 : decode cX1_writeCommonPart 24 = .ok (.aload_n 0, 1) := by decide +kernel
theorem dX1_writeCommonPart_25 : decode cX1_writeCommonPart 25 = .ok (.getfield 9, 3) := by decide +kernel
theorem dX1_writeCommonPart_28 : decode cX1_writeCommonPart 28 = .ok (.invokevirtual 36, 3) := by decide +kernel
theorem dX1_writeCommonPart_31 : decode cX1_writeCommonPart 31 = .ok (.bipush 125, 2) := by decide +kernel
theorem dX1_writeCommonPart_33 : decode cX1_writeCommonPart 33 = .ok (.if_icmp .eq 69, 3) := by decide +kernel
theorem dX1_writeCommonPart_36 : decode cX1_writeCommonPart 36 = .ok (.aload_n 0, 1) := by decide +kernel
theorem dX1_writeCommonPart_37 : decode cX1_writeCommonPart 37 = .ok (.dup, 1) := by decide +kernel
theorem dX1_writeCommonPart_38 : decode cX1_writeCommonPart 38 = .ok (.getfield 9, 3) := by decide +kernel
theorem dX1_writeCommonPart_41 : decode cX1_writeCommonPart 41 = .ok (.iconst 3, 1) := by decide +kernel
theorem dX1_writeCommonPart_42 : decode cX1_writeCommonPart 42 = .ok (.iadd, 1) := by decide +kernel
theorem dX1_writeCommonPart_43 : decode cX1_writeCommonPart 43 = .ok (.putfield 9, 3) := by decide +kernel
theorem dX1_writeCommonPart_46 : decode cX1_writeCommonPart 46 = .ok (.aload_n 0, 1) := by decide +kernel
theorem dX1_writeCommonPart_47 : decode cX1_writeCommonPart 47 = .ok (.iload_n 1, 1) := by decide +kernel
theorem dX1_writeCommonPart_48 : decode cX1_writeCommonPart 48 = .ok (.iconst 1, 1) := by decide +kernel
theorem dX1_writeCommonPart_49 : decode cX1_writeCommonPart 49 = .ok (.iadd, 1) := by decide +kernel
theorem dX1_writeCommonPart_50 : decode cX1_writeCommonPart 50 = .ok (.invokevirtual 32, 3) := by decide +kernel
theorem dX1_writeCommonPart_53 : decode cX1_writeCommonPart 53 = .ok (.ifCond .ne 5, 3) := by decide +kernel
theorem dX1_writeCommonPart_56 : decode cX1_writeCommonPart 56 = .ok (.iconst 0, 1) := by decide +kernel
theorem dX1_writeCommonPart_57 : decode cX1_writeCommonPart 57 = .ok (.ireturn, 1) := by decide +kernel
theorem dX1_writeCommonPart_58 : decode cX1_writeCommonPart 58 = .ok (.iload 4, 2) := by decide +kernel
theorem dX1_writeCommonPart_60 : decode cX1_writeCommonPart 60 = .ok (.ifCond .ne 14, 3) := by decide +kernel
theorem dX1_writeCommonPart_63 : decode cX1_writeCommonPart 63 = .ok (.aload_n 0, 1) := by decide +kernel
theorem dX1_writeCommonPart_64 : decode cX1_writeCommonPart 64 = .ok (.getfield 23, 3) := by decide +kernel
theorem dX1_writeCommonPart_67 : decode cX1_writeCommonPart 67 = .ok (.invokevirtual 53, 3) := by decide +kernel
theorem dX1_writeCommonPart_70 : decode cX1_writeCommonPart 70 = .ok (.istore_n 3, 1) := by decide +kernel
theorem dX1_writeCommonPart_71 : decode cX1_writeCommonPart 71 = .ok (.goto 17, 3) := by decide +kernel
theorem dX1_writeCommonPart_74 : decode cX1_writeCommonPart 74 = .ok (.aload_n 0, 1) := by decide +kernel
theorem dX1_writeCommonPart_75 : decode cX1_writeCommonPart 75 = .ok (.getfield 23, 3) := by decide +kernel
theorem dX1_writeCommonPart_78 : decode cX1_writeCommonPart 78 = .ok (.iload_n 2, 1) := by decide +kernel
theorem dX1_writeCommonPart_79 : decode cX1_writeCommonPart 79 = .ok (.iload_n 3, 1) := by decide +kernel
theorem dX1_writeCommonPart_80 : decode cX1_writeCommonPart 80 = .ok (.invokevirtual 73, 3) := by decide +kernel
theorem dX1_writeCommonPart_83 : decode cX1_writeCommonPart 83 = .ok (.ifCond .ne 5, 3) := by decide +kernel
theorem dX1_writeCommonPart_86 : decode cX1_writeCommonPart 86 = .ok (.iconst 0, 1) := by decide +kernel
theorem dX1_writeCommonPart_87 : decode cX1_writeCommonPart 87 = .ok (.ireturn, 1) := by decide +kernel
theorem dX1_writeCommonPart_88 : decode cX1_writeCommonPart 88 = .ok (.aload_n 0, 1) := by decide +kernel
theorem dX1_writeCommonPart_89 : decode cX1_writeCommonPart 89 = .ok (.getfield 23, 3) := by decide +kernel
theorem dX1_writeCommonPart_92 : decode cX1_writeCommonPart 92 = .ok (.iload_n 3, 1) := by decide +kernel
theorem dX1_writeCommonPart_93 : decode cX1_writeCommonPart 93 = .ok (.invokevirtual 26, 3) := by decide +kernel
theorem dX1_writeCommonPart_96 : decode cX1_writeCommonPart 96 = .ok (.iinc 4 1, 3) := by decide +kernel
theorem dX1_writeCommonPart_99 : decode cX1_writeCommonPart 99 = .ok (.goto (-86), 3) := by decide +kernel
theorem dX1_writeCommonPart_102 : decode cX1_writeCommonPart 102 = .ok (.aload_n 0, 1) := by decide +kernel
theorem dX1_writeCommonPart_103 : decode cX1_writeCommonPart 103 = .ok (.dup, 1) := by decide +kernel
theorem dX1_writeCommonPart_104 : decode cX1_writeCommonPart 104 = .ok (.getfield 9, 3) := by decide +kernel
theorem dX1_writeCommonPart_107 : decode cX1_writeCommonPart 107 = .ok (.iconst 1, 1) := by decide +kernel
theorem dX1_writeCommonPart_108 : decode cX1_writeCommonPart 108 = .ok (.iadd, 1) := by decide +kernel
theorem dX1_writeCommonPart_109 : decode cX1_writeCommonPart 109 = .ok (.putfield 9, 3) := by decide +kernel
theorem dX1_writeCommonPart_112 : decode cX1_writeCommonPart 112 = .ok (.iconst 1, 1) := by decide +kernel
theorem dX1_writeCommonPart_113 : decode cX1_writeCommonPart 113 = .ok (.ireturn, 1) := by decide +kernel
theorem dX2_init_0 : decode cX2_init 0 = .ok (.aload_n 0, 1) := by decide +kernel
theorem dX2_init_1 : decode cX2_init 1 = .ok (.invokespecial 3, 3) := by decide +kernel
theorem dX2_init_4 : decode cX2_init 4 = .ok (.aload_n 0, 1) := by decide +kernel
theorem dX2_init_5 : decode cX2_init 5 = .ok (.iconst 0, 1) := by decide +kernel
theorem dX2_init_6 : decode cX2_init 6 = .ok (.putfield 9, 3) := by decide +kernel
theorem dX2_init_9 : decode cX2_init 9 = .ok (.aload_n 0, 1) := by decide +kernel
theorem dX2_init_10 : decode cX2_init 10 = .ok (.iconst 0, 1) := by decide +kernel
theorem dX2_init_11 : decode cX2_init 11 = .ok (.putfield 15, 3) := by decide +kernel
theorem dX2_init_14 : decode cX2_init 14 = .ok (.aload_n 0, 1) := by decide +kernel
theorem dX2_init_15 : decode cX2_init 15 = .ok (.aload_n 1, 1) := by decide +kernel
theorem dX2_init_16 : decode cX2_init 16 = .ok (.putfield 19, 3) := by decide +kernel
theorem dX2_init_19 : decode cX2_init 19 = .ok (.return_, 1) := by decide +kernel
theorem dX2_toBeginning_0 : decode cX2_toBeginning 0 = .ok (.aload_n 0, 1) := by decide +kernel
theorem dX2_toBeginning_1 : decode cX2_toBeginning 1 = .ok (.iconst 0, 1) := by decide +kernel
theorem dX2_toBeginning_2 : decode cX2_toBeginning 2 = .ok (.putfield 15, 3) := by decide +kernel
theorem dX2_toBeginning_5 : decode cX2_toBeginning 5 = .ok (.aload_n 0, 1) := by decide +kernel
theorem dX2_toBeginning_6 : decode cX2_toBeginning 6 = .ok (.invokevirtual 23, 3) := by decide +kernel
theorem dX2_toBeginning_9 : decode cX2_toBeginning 9 = .ok (.return_, 1) := by decide +kernel
theorem dX2_action_0 : decode cX2_action 0 = .ok (.aload_n 0, 1) := by decide +kernel
theorem dX2_action_1 : decode cX2_action 1 = .ok (.getfield 19, 3) := by decide +kernel
theorem dX2_action_4 : decode cX2_action 4 = .ok (.aload_n 0, 1) := by decide +kernel
theorem dX2_action_5 : decode cX2_action 5 = .ok (.getfield 15, 3) := by decide +kernel
theorem dX2_action_8 : decode cX2_action 8 = .ok (.invokevirtual 26, 3) := by decide +kernel
theorem dX2_action_11 : decode cX2_action 11 = .ok (.invokestatic 32, 3) := by decide +kernel
theorem dX2_action_14 : decode cX2_action 14 = .ok (.ifCond .ne 5, 3) := by decide +kernel
theorem dX2_action_17 : decode cX2_action 17 = .ok (.iconst 0, 1) := by decide +kernel
theorem dX2_action_18 : decode cX2_action 18 = .ok (.ireturn, 1) := by decide +kernel
theorem dX2_action_19 : decode cX2_action 19 = .ok (.aload_n 0, 1) := by decide +kernel
theorem dX2_action_20 : decode cX2_action 20 = .ok (.getfield 19, 3) := by decide +kernel
theorem dX2_action_23 : decode cX2_action 23 = .ok (.aload_n 0, 1) := by decide +kernel
theorem dX2_action_24 : decode cX2_action 24 = .ok (.getfield 15, 3) := by decide +kernel
theorem dX2_action_27 : decode cX2_action 27 = .ok (.iconst 1, 1) := by decide +kernel
theorem dX2_action_28 : decode cX2_action 28 = .ok (.iadd, 1) := by decide +kernel
theorem dX2_action_29 : decode cX2_action 29 = .ok (.invokevirtual 26, 3) := by decide +kernel
theorem dX2_action_32 : decode cX2_action 32 = .ok (.bipush 33, 2) := by decide +kernel
theorem dX2_action_34 : decode cX2_action 34 = .ok (.if_icmp .ne 7, 3) := by decide +kernel
theorem dX2_action_37 : decode cX2_action 37 = .ok (.iconst 1, 1) := by decide +kernel
theorem dX2_action_38 : decode cX2_action 38 = .ok (.goto 4, 3) := by decide +kernel
theorem dX2_action_41 : decode cX2_action 41 = .ok (.iconst 2, 1) := by decide +kernel
theorem dX2_action_42 : decode cX2_action 42 = .ok (.ireturn, 1) := by decide +kernel
theorem dX2_otherRole_0 : decode cX2_otherRole 0 = .ok (.aload_n 0, 1) := by decide +kernel
theorem dX2_otherRole_1 : decode cX2_otherRole 1 = .ok (.getfield 19, 3) := by decide +kernel
theorem dX2_otherRole_4 : decode cX2_otherRole 4 = .ok (.aload_n 0, 1) := by decide +kernel
theorem dX2_otherRole_5 : decode cX2_otherRole 5 = .ok (.getfield 15, 3) := by decide +kernel
theorem dX2_otherRole_8 : decode cX2_otherRole 8 = .ok (.invokevirtual 26, 3) := by decide +kernel
theorem dX2_otherRole_11 : decode cX2_otherRole 11 = .ok (.istore_n 1, 1) := by decide +kernel
theorem dX2_otherRole_12 : decode cX2_otherRole 12 = .ok (.iload_n 1, 1) := by decide +kernel
theorem dX2_otherRole_13 : decode cX2_otherRole 13 = .ok (.invokestatic 32, 3) := by decide +kernel
theorem dX2_otherRole_16 : decode cX2_otherRole 16 = .ok (.ifCond .eq 10, 3) := by decide +kernel
theorem dX2_otherRole_19 : decode cX2_otherRole 19 = .ok (.iload_n 1, 1) := by decide +kernel
theorem dX2_otherRole_20 : decode cX2_otherRole 20 = .ok (.bipush 65, 2) := by decide +kernel
theorem dX2_otherRole_22 : decode cX2_otherRole 22 = .ok (.isub, 1) := by decide +kernel
theorem dX2_otherRole_23 : decode cX2_otherRole 23 = .ok (.goto 4, 3) := by decide +kernel
theorem dX2_otherRole_26 : decode cX2_otherRole 26 = .ok (.iconst (-1), 1) := by decide +kernel
theorem dX2_otherRole_27 : decode cX2_otherRole 27 = .ok (.ireturn, 1) := by decide +kernel
theorem dX2_behindLabel_0 : decode cX2_behindLabel 0 = .ok (.iload_n 1, 1) := by decide +kernel
theorem dX2_behindLabel_1 : decode cX2_behindLabel 1 = .ok (.ifCond .lt 16, 3) := by decide +kernel
theorem dX2_behindLabel_4 : decode cX2_behindLabel 4 = .ok (.iload_n 1, 1) := by decide +kernel
theorem dX2_behindLabel_5 : decode cX2_behindLabel 5 = .ok (.bipush 6, 2) := by decide +kernel
theorem dX2_behindLabel_7 : decode cX2_behindLabel 7 = .ok (.if_icmp .ge 10, 3) := by decide +kernel
theorem dX2_behindLabel_10 : decode cX2_behindLabel 10 = .ok (.aload_n 0, 1) := by decide +kernel
theorem dX2_behindLabel_11 : decode cX2_behindLabel 11 = .ok (.invokevirtual 36, 3) := by decide +kernel
theorem dX2_behindLabel_14 : decode cX2_behindLabel 14 = .ok (.ifCond .ne 5, 3) := by decide +kernel
theorem dX2_behindLabel_17 : decode cX2_behindLabel 17 = .ok (.iconst (-1), 1) := by decide +kernel
theorem dX2_behindLabel_18 : decode cX2_behindLabel 18 = .ok (.ireturn, 1) := by decide +kernel
theorem dX2_behindLabel_19 : decode cX2_behindLabel 19 = .ok (.iconst 0, 1) := by decide +kernel
theorem dX2_behindLabel_20 : decode cX2_behindLabel 20 = .ok (.istore_n 2, 1) := by decide +kernel
theorem dX2_behindLabel_21 : decode cX2_behindLabel 21 = .ok (.aload_n 0, 1) := by decide +kernel
theorem dX2_behindLabel_22 : decode cX2_behindLabel 22 = .ok (.getfield 15, 3) := by decide +kernel
theorem dX2_behindLabel_25 : decode cX2_behindLabel 25 = .ok (.iconst 2, 1) := by decide +kernel
theorem dX2_behindLabel_26 : decode cX2_behindLabel 26 = .ok (.iadd, 1) := by decide +kernel
theorem dX2_behindLabel_27 : decode cX2_behindLabel 27 = .ok (.istore_n 3, 1) := by decide +kernel
theorem dX2_behindLabel_28 : decode cX2_behindLabel 28 = .ok (.iload_n 3, 1) := by decide +kernel
theorem dX2_behindLabel_29 : decode cX2_behindLabel 29 = .ok (.aload_n 0, 1) := by decide +kernel
theorem dX2_behindLabel_30 : decode cX2_behindLabel 30 = .ok (.getfield 19, 3) := by decide +kernel
theorem dX2_behindLabel_33 : decode cX2_behindLabel 33 = .ok (.invokevirtual 40, 3) := by decide +kernel
theorem dX2_behindLabel_36 : decode cX2_behindLabel 36 = .ok (.if_icmp .ge 85, 3) := by decide +kernel
theorem dX2_behindLabel_39 : decode cX2_behindLabel 39 = .ok (.aload_n 0, 1) := by decide +kernel
theorem dX2_behindLabel_40 : decode cX2_behindLabel 40 = .ok (.getfield 19, 3) := by decide +kernel
theorem dX2_behindLabel_43 : decode cX2_behindLabel 43 = .ok (.iload_n 3, 1) := by decide +kernel
theorem dX2_behindLabel_44 : decode cX2_behindLabel 44 = .ok (.invokevirtual 26, 3) := by decide +kernel
theorem dX2_behindLabel_47 : decode cX2_behindLabel 47 = .ok (.istore 4, 2) := by decide +kernel
theorem dX2_behindLabel_49 : decode cX2_behindLabel 49 = .ok (.iload 4, 2) := by decide +kernel
theorem dX2_behindLabel_51 : decode cX2_behindLabel 51 = .ok (.bipush 123, 2) := by decide +kernel
theorem dX2_behindLabel_53 : decode cX2_behindLabel 53 = .ok (.if_icmp .ne 6, 3) := by decide +kernel
theorem dX2_behindLabel_56 : decode cX2_behindLabel 56 = .ok (.iinc 2 1, 3) := by decide +kernel
theorem dX2_behindLabel_59 : decode cX2_behindLabel 59 = .ok (.iload_n 2, 1) := by decide +kernel
theorem dX2_behindLabel_60 : decode cX2_behindLabel 60 = .ok (.iconst 1, 1) := by decide +kernel
theorem dX2_behindLabel_61 : decode cX2_behindLabel 61 = .ok (.if_icmp .ne 38, 3) := by decide +kernel
theorem dX2_behindLabel_64 : decode cX2_behindLabel 64 = .ok (.iload 4, 2) := by decide +kernel
theorem dX2_behindLabel_66 : decode cX2_behindLabel 66 = .ok (.bipush 123, 2) := by decide +kernel
theorem dX2_behindLabel_68 : decode cX2_behindLabel 68 = .ok (.if_icmp .eq 10, 3) := by decide +kernel
theorem dX2_behindLabel_71 : decode cX2_behindLabel 71 = .ok (.iload 4, 2) := by decide +kernel
theorem dX2_behindLabel_73 : decode cX2_behindLabel 73 = .ok (.bipush 44, 2) := by decide +kernel
theorem dX2_behindLabel_75 : decode cX2_behindLabel 75 = .ok (.if_icmp .ne 24, 3) := by decide +kernel
theorem dX2_behindLabel_78 : decode cX2_behindLabel 78 = .ok (.aload_n 0, 1) := by decide +kernel
theorem dX2_behindLabel_79 : decode cX2_behindLabel 79 = .ok (.getfield 19, 3) := by decide +kernel
theorem dX2_behindLabel_82 : decode cX2_behindLabel 82 = .ok (.iload_n 3, 1) := by decide +kernel
theorem dX2_behindLabel_83 : decode cX2_behindLabel 83 = .ok (.iconst 1, 1) := by decide +kernel
theorem dX2_behindLabel_84 : decode cX2_behindLabel 84 = .ok (.iadd, 1) := by decide +kernel
theorem dX2_behindLabel_85 : decode cX2_behindLabel 85 = .ok (.invokevirtual 26, 3) := by decide +kernel
theorem dX2_behindLabel_88 : decode cX2_behindLabel 88 = .ok (.bipush 112, 2) := by decide +kernel
theorem dX2_behindLabel_90 : decode cX2_behindLabel 90 = .ok (.iload_n 1, 1) := by decide +kernel
theorem dX2_behindLabel_91 : decode cX2_behindLabel 91 = .ok (.iadd, 1) := by decide +kernel
theorem dX2_behindLabel_92 : decode cX2_behindLabel 92 = .ok (.if_icmp .ne 7, 3) := by decide +kernel
theorem dX2_behindLabel_95 : decode cX2_behindLabel 95 = .ok (.iload_n 3, 1) := by decide +kernel
theorem dX2_behindLabel_96 : decode cX2_behindLabel 96 = .ok (.iconst 3, 1) := by decide +kernel
theorem dX2_behindLabel_97 : decode cX2_behindLabel 97 = .ok (.iadd, 1) := by decide +kernel
theorem dX2_behindLabel_98 : decode cX2_behindLabel 98 = .ok (.ireturn, 1) := by decide +kernel
theorem dX2_behindLabel_99 : decode cX2_behindLabel 99 = .ok (.iload 4, 2) := by decide +kernel
theorem dX2_behindLabel_101 : decode cX2_behindLabel 101 = .ok (.bipush 125, 2) := by decide +kernel
theorem dX2_behindLabel_103 : decode cX2_behindLabel 103 = .ok (.if_icmp .ne 6, 3) := by decide +kernel
theorem dX2_behindLabel_106 : decode cX2_behindLabel 106 = .ok (.iinc 2 (-1), 3) := by decide +kernel
theorem dX2_behindLabel_109 : decode cX2_behindLabel 109 = .ok (.iload_n 2, 1) := by decide +kernel
theorem dX2_behindLabel_110 : decode cX2_behindLabel 110 = .ok (.ifCond .ne 5, 3) := by decide +kernel
theorem dX2_behindLabel_113 : decode cX2_behindLabel 113 = .ok (.iconst (-1), 1) := by decide +kernel
theorem dX2_behindLabel_114 : decode cX2_behindLabel 114 = .ok (.ireturn, 1) := by decide +kernel
theorem dX2_behindLabel_115 : decode cX2_behindLabel 115 = .ok (.iinc 3 1, 3) := by decide +kernel
theorem dX2_behindLabel_118 : decode cX2_behindLabel 118 = .ok (.goto (-90), 3) := by decide +kernel
theorem dX2_behindLabel_121 : decode cX2_behindLabel 121 = .ok (.iconst (-1), 1) := by decide +kernel
theorem dX2_behindLabel_122 : decode cX2_behindLabel 122 = .ok (.ireturn, 1) := by decide +kernel
theorem dX2_follow_0 : decode cX2_follow 0 = .ok (.aload_n 0, 1) := by decide +kernel
theorem dX2_follow_1 : decode cX2_follow 1 = .ok (.iload_n 1, 1) := by decide +kernel
theorem dX2_follow_2 : decode cX2_follow 2 = .ok (.invokevirtual 43, 3) := by decide +kernel
theorem dX2_follow_5 : decode cX2_follow 5 = .ok (.istore_n 2, 1) := by decide +kernel
theorem dX2_follow_6 : decode cX2_follow 6 = .ok (.iload_n 2, 1) := by decide +kernel
theorem dX2_follow_7 : decode cX2_follow 7 = .ok (.iconst (-1), 1) := by decide +kernel
theorem dX2_follow_8 : decode cX2_follow 8 = .ok (.if_icmp .ne 5, 3) := by decide +kernel
theorem dX2_follow_11 : decode cX2_follow 11 = .ok (.iconst 0, 1) := by decide +kernel
theorem dX2_follow_12 : decode cX2_follow 12 = .ok (.ireturn, 1) := by decide +kernel
theorem dX2_follow_13 : decode cX2_follow 13 = .ok (.aload_n 0, 1) := by decide +kernel
theorem dX2_follow_14 : decode cX2_follow 14 = .ok (.iload_n 2, 1) := by decide +kernel
theorem dX2_follow_15 : decode cX2_follow 15 = .ok (.putfield 15, 3) := by decide +kernel
theorem dX2_follow_18 : decode cX2_follow 18 = .ok (.aload_n 0, 1) := by decide +kernel
theorem dX2_follow_19 : decode cX2_follow 19 = .ok (.invokevirtual 23, 3) := by decide +kernel
theorem dX2_follow_22 : decode cX2_follow 22 = .ok (.iconst 1, 1) := by decide +kernel
theorem dX2_follow_23 : decode cX2_follow 23 = .ok (.ireturn, 1) := by decide +kernel
theorem dX2_goOnAtOnce_0 : decode cX2_goOnAtOnce 0 = .ok (.iconst 0, 1) := by decide +kernel
theorem dX2_goOnAtOnce_1 : decode cX2_goOnAtOnce 1 = .ok (.istore_n 1, 1) := by decide +kernel
theorem dX2_goOnAtOnce_2 : decode cX2_goOnAtOnce 2 = .ok (.iload_n 1, 1) := by decide +kernel
theorem dX2_goOnAtOnce_3 : decode cX2_goOnAtOnce 3 = .ok (.bipush 60, 2) := by decide +kernel
theorem dX2_goOnAtOnce_5 : decode cX2_goOnAtOnce 5 = .ok (.if_icmp .ge 60, 3) := by decide +kernel
theorem dX2_goOnAtOnce_8 : decode cX2_goOnAtOnce 8 = .ok (.aload_n 0, 1) := by decide +kernel
theorem dX2_goOnAtOnce_9 : decode cX2_goOnAtOnce 9 = .ok (.getfield 19, 3) := by decide +kernel
theorem dX2_goOnAtOnce_12 : decode cX2_goOnAtOnce 12 = .ok (.aload_n 0, 1) := by decide +kernel
theorem dX2_goOnAtOnce_13 : decode cX2_goOnAtOnce 13 = .ok (.getfield 15, 3) := by decide +kernel
theorem dX2_goOnAtOnce_16 : decode cX2_goOnAtOnce 16 = .ok (.invokevirtual 26, 3) := by decide +kernel
theorem dX2_goOnAtOnce_19 : decode cX2_goOnAtOnce 19 = .ok (.istore_n 2, 1) := by decide +kernel
theorem dX2_goOnAtOnce_20 : decode cX2_goOnAtOnce 20 = .ok (.iload_n 2, 1) := by decide +kernel
theorem dX2_goOnAtOnce_21 : decode cX2_goOnAtOnce 21 = .ok (.bipush 109, 2) := by decide +kernel
theorem dX2_goOnAtOnce_23 : decode cX2_goOnAtOnce 23 = .ok (.if_icmp .ne 16, 3) := by decide +kernel
theorem dX2_goOnAtOnce_26 : decode cX2_goOnAtOnce 26 = .ok (.aload_n 0, 1) := by decide +kernel
theorem dX2_goOnAtOnce_27 : decode cX2_goOnAtOnce 27 = .ok (.dup, 1) := by decide +kernel
theorem dX2_goOnAtOnce_28 : decode cX2_goOnAtOnce 28 = .ok (.getfield 15, 3) := by decide +kernel
theorem dX2_goOnAtOnce_31 : decode cX2_goOnAtOnce 31 = .ok (.iconst 3, 1) := by decide +kernel
theorem dX2_goOnAtOnce_32 : decode cX2_goOnAtOnce 32 = .ok (.iadd, 1) := by decide +kernel
theorem dX2_goOnAtOnce_33 : decode cX2_goOnAtOnce 33 = .ok (.putfield 15, 3) := by decide +kernel
theorem dX2_goOnAtOnce_36 : decode cX2_goOnAtOnce 36 = .ok (.goto 23, 3) := by decide +kernel
theorem dX2_goOnAtOnce_39 : decode cX2_goOnAtOnce 39 = .ok (.iload_n 2, 1) := by decide +kernel
theorem dX2_goOnAtOnce_40 : decode cX2_goOnAtOnce 40 = .ok (.invokestatic 47, 3) := by decide +kernel
theorem dX2_goOnAtOnce_43 : decode cX2_goOnAtOnce 43 = .ok (.ifCond .eq 15, 3) := by decide +kernel
theorem dX2_goOnAtOnce_46 : decode cX2_goOnAtOnce 46 = .ok (.aload_n 0, 1) := by decide +kernel
theorem dX2_goOnAtOnce_47 : decode cX2_goOnAtOnce 47 = .ok (.aload_n 0, 1) := by decide +kernel
theorem dX2_goOnAtOnce_48 : decode cX2_goOnAtOnce 48 = .ok (.iload_n 2, 1) := by decide +kernel
theorem dX2_goOnAtOnce_49 : decode cX2_goOnAtOnce 49 = .ok (.invokevirtual 50, 3) := by decide +kernel
theorem dX2_goOnAtOnce_52 : decode cX2_goOnAtOnce 52 = .ok (.putfield 15, 3) := by decide +kernel
theorem dX2_goOnAtOnce_55 : decode cX2_goOnAtOnce 55 = .ok (.goto 4, 3) := by decide +kernel
theorem dX2_goOnAtOnce_58 : decode cX2_goOnAtOnce 58 = .ok (.return_, 1) := by decide +kernel
theorem dX2_goOnAtOnce_59 : decode cX2_goOnAtOnce 59 = .ok (.iinc 1 1, 3) := by decide +kernel
theorem dX2_goOnAtOnce_62 : decode cX2_goOnAtOnce 62 = .ok (.goto (-60), 3) := by decide +kernel
theorem dX2_goOnAtOnce_65 : decode cX2_goOnAtOnce 65 = .ok (.return_, 1) := by decide +kernel
theorem dX2_bodyOfLoop_0 : decode cX2_bodyOfLoop 0 = .ok (.aload_n 0, 1) := by decide +kernel
theorem dX2_bodyOfLoop_1 : decode cX2_bodyOfLoop 1 = .ok (.getfield 15, 3) := by decide +kernel
theorem dX2_bodyOfLoop_4 : decode cX2_bodyOfLoop 4 = .ok (.iconst 1, 1) := by decide +kernel
theorem dX2_bodyOfLoop_5 : decode cX2_bodyOfLoop 5 = .ok (.isub, 1) := by decide +kernel
theorem dX2_bodyOfLoop_6 : decode cX2_bodyOfLoop 6 = .ok (.istore_n 2, 1) := by decide +kernel
theorem dX2_bodyOfLoop_7 : decode cX2_bodyOfLoop 7 = .ok (.iload_n 2, 1) := by decide +kernel
theorem dX2_bodyOfLoop_8 : decode cX2_bodyOfLoop 8 = .ok (.ifCond .lt 40, 3) := by decide +kernel
theorem dX2_bodyOfLoop_11 : decode cX2_bodyOfLoop 11 = .ok (.aload_n 0, 1) := by decide +kernel
theorem dX2_bodyOfLoop_12 : decode cX2_bodyOfLoop 12 = .ok (.getfield 19, 3) := by decide +kernel
theorem dX2_bodyOfLoop_15 : decode cX2_bodyOfLoop 15 = .ok (.iload_n 2, 1) := by decide +kernel
theorem dX2_bodyOfLoop_16 : decode cX2_bodyOfLoop 16 = .ok (.invokevirtual 26, 3) := by decide +kernel
theorem dX2_bodyOfLoop_19 : decode cX2_bodyOfLoop 19 = .ok (.bipush 109, 2) := by decide +kernel
theorem dX2_bodyOfLoop_21 : decode cX2_bodyOfLoop 21 = .ok (.if_icmp .ne 21, 3) := by decide +kernel
theorem dX2_bodyOfLoop_24 : decode cX2_bodyOfLoop 24 = .ok (.aload_n 0, 1) := by decide +kernel
theorem dX2_bodyOfLoop_25 : decode cX2_bodyOfLoop 25 = .ok (.getfield 19, 3) := by decide +kernel
theorem dX2_bodyOfLoop_28 : decode cX2_bodyOfLoop 28 = .ok (.iload_n 2, 1) := by decide +kernel
theorem dX2_bodyOfLoop_29 : decode cX2_bodyOfLoop 29 = .ok (.iconst 1, 1) := by decide +kernel
theorem dX2_bodyOfLoop_30 : decode cX2_bodyOfLoop 30 = .ok (.iadd, 1) := by decide +kernel
theorem dX2_bodyOfLoop_31 : decode cX2_bodyOfLoop 31 = .ok (.invokevirtual 26, 3) := by decide +kernel
theorem dX2_bodyOfLoop_34 : decode cX2_bodyOfLoop 34 = .ok (.iload_n 1, 1) := by decide +kernel
theorem dX2_bodyOfLoop_35 : decode cX2_bodyOfLoop 35 = .ok (.if_icmp .ne 7, 3) := by decide +kernel
theorem dX2_bodyOfLoop_38 : decode cX2_bodyOfLoop 38 = .ok (.iload_n 2, 1) := by decide +kernel
theorem dX2_bodyOfLoop_39 : decode cX2_bodyOfLoop 39 = .ok (.iconst 3, 1) := by decide +kernel
theorem dX2_bodyOfLoop_40 : decode cX2_bodyOfLoop 40 = .ok (.iadd, 1) := by decide +kernel
theorem dX2_bodyOfLoop_41 : decode cX2_bodyOfLoop 41 = .ok (.ireturn, 1) := by decide +kernel
theorem dX2_bodyOfLoop_42 : decode cX2_bodyOfLoop 42 = .ok (.iinc 2 (-1), 3) := by decide +kernel
theorem dX2_bodyOfLoop_45 : decode cX2_bodyOfLoop 45 = .ok (.goto (-38), 3) := by decide +kernel
theorem dX2_bodyOfLoop_48 : decode cX2_bodyOfLoop 48 = .ok (.aload_n 0, 1) := by decide +kernel
theorem dX2_bodyOfLoop_49 : decode cX2_bodyOfLoop 49 = .ok (.getfield 15, 3) := by decide +kernel
theorem dX2_bodyOfLoop_52 : decode cX2_bodyOfLoop 52 = .ok (.ireturn, 1) := by decide +kernel
theorem dX3_init_0 : decode cX3_init 0 = .ok (.aload_n 0, 1) := by decide +kernel
theorem dX3_init_1 : decode cX3_init 1 = .ok (.invokespecial 3, 3) := by decide +kernel
theorem dX3_init_4 : decode cX3_init 4 = .ok (.aload_n 0, 1) := by decide +kernel
theorem dX3_init_5 : decode cX3_init 5 = .ok (.iconst 3, 1) := by decide +kernel
theorem dX3_init_6 : decode cX3_init 6 = .ok (.newarray .int, 2) := by decide +kernel
theorem dX3_init_8 : decode cX3_init 8 = .ok (.putfield 9, 3) := by decide +kernel
theorem dX3_init_11 : decode cX3_init 11 = .ok (.aload_n 0, 1) := by decide +kernel
theorem dX3_init_12 : decode cX3_init 12 = .ok (.iconst 0, 1) := by decide +kernel
theorem dX3_init_13 : decode cX3_init 13 = .ok (.putfield 15, 3) := by decide +kernel
theorem dX3_init_16 : decode cX3_init 16 = .ok (.return_, 1) := by decide +kernel
theorem dX3_size_0 : decode cX3_size 0 = .ok (.aload_n 0, 1) := by decide +kernel
theorem dX3_size_1 : decode cX3_size 1 = .ok (.getfield 15, 3) := by decide +kernel
theorem dX3_size_4 : decode cX3_size 4 = .ok (.ireturn, 1) := by decide +kernel
theorem dX3_isFull_0 : decode cX3_isFull 0 = .ok (.aload_n 0, 1) := by decide +kernel
theorem dX3_isFull_1 : decode cX3_isFull 1 = .ok (.getfield 15, 3) := by decide +kernel
theorem dX3_isFull_4 : decode cX3_isFull 4 = .ok (.iconst 3, 1) := by decide +kernel
theorem dX3_isFull_5 : decode cX3_isFull 5 = .ok (.if_icmp .lt 7, 3) := by decide +kernel
theorem dX3_isFull_8 : decode cX3_isFull 8 = .ok (.iconst 1, 1) := by decide +kernel
theorem dX3_isFull_9 : decode cX3_isFull 9 = .ok (.goto 4, 3) := by decide +kernel
theorem dX3_isFull_12 : decode cX3_isFull 12 = .ok (.iconst 0, 1) := by decide +kernel
theorem dX3_isFull_13 : decode cX3_isFull 13 = .ok (.ireturn, 1) := by decide +kernel
theorem dX3_get_0 : decode cX3_get 0 = .ok (.iload_n 1, 1) := by decide +kernel
theorem dX3_get_1 : decode cX3_get 1 = .ok (.ifCond .lt 20, 3) := by decide +kernel
theorem dX3_get_4 : decode cX3_get 4 = .ok (.iload_n 1, 1) := by decide +kernel
theorem dX3_get_5 : decode cX3_get 5 = .ok (.aload_n 0, 1) := by decide +kernel
theorem dX3_get_6 : decode cX3_get 6 = .ok (.getfield 15, 3) := by decide +kernel
theorem dX3_get_9 : decode cX3_get 9 = .ok (.if_icmp .ge 12, 3) := by decide +kernel
theorem dX3_get_12 : decode cX3_get 12 = .ok (.aload_n 0, 1) := by decide +kernel
theorem dX3_get_13 : decode cX3_get 13 = .ok (.getfield 9, 3) := by decide +kernel
theorem dX3_get_16 : decode cX3_get 16 = .ok (.iload_n 1, 1) := by decide +kernel
theorem dX3_get_17 : decode cX3_get 17 = .ok (.iaload, 1) := by decide +kernel
theorem dX3_get_18 : decode cX3_get 18 = .ok (.goto 4, 3) := by decide +kernel
theorem dX3_get_21 : decode cX3_get 21 = .ok (.iconst (-1), 1) := by decide +kernel
theorem dX3_get_22 : decode cX3_get 22 = .ok (.ireturn, 1) := by decide +kernel
theorem dX3_clear_0 : decode cX3_clear 0 = .ok (.aload_n 0, 1) := by decide +kernel
theorem dX3_clear_1 : decode cX3_clear 1 = .ok (.iconst 0, 1) := by decide +kernel
theorem dX3_clear_2 : decode cX3_clear 2 = .ok (.putfield 15, 3) := by decide +kernel
theorem dX3_clear_5 : decode cX3_clear 5 = .ok (.return_, 1) := by decide +kernel
theorem dX3_append_0 : decode cX3_append 0 = .ok (.aload_n 0, 1) := by decide +kernel
theorem dX3_append_1 : decode cX3_append 1 = .ok (.getfield 15, 3) := by decide +kernel
theorem dX3_append_4 : decode cX3_append 4 = .ok (.iconst 3, 1) := by decide +kernel
theorem dX3_append_5 : decode cX3_append 5 = .ok (.if_icmp .ge 23, 3) := by decide +kernel
theorem dX3_append_8 : decode cX3_append 8 = .ok (.aload_n 0, 1) := by decide +kernel
theorem dX3_append_9 : decode cX3_append 9 = .ok (.getfield 9, 3) := by decide +kernel
theorem dX3_append_12 : decode cX3_append 12 = .ok (.aload_n 0, 1) := by decide +kernel
theorem dX3_append_13 : decode cX3_append 13 = .ok (.getfield 15, 3) := by decide +kernel
theorem dX3_append_16 : decode cX3_append 16 = .ok (.iload_n 1, 1) := by decide +kernel
theorem dX3_append_17 : decode cX3_append 17 = .ok (.iastore, 1) := by decide +kernel
theorem dX3_append_18 : decode cX3_append 18 = .ok (.aload_n 0, 1) := by decide +kernel
theorem dX3_append_19 : decode cX3_append 19 = .ok (.dup, 1) := by decide +kernel
theorem dX3_append_20 : decode cX3_append 20 = .ok (.getfield 15, 3) := by decide +kernel
theorem dX3_append_23 : decode cX3_append 23 = .ok (.iconst 1, 1) := by decide +kernel
theorem dX3_append_24 : decode cX3_append 24 = .ok (.iadd, 1) := by decide +kernel
theorem dX3_append_25 : decode cX3_append 25 = .ok (.putfield 15, 3) := by decide +kernel
theorem dX3_append_28 : decode cX3_append 28 = .ok (.return_, 1) := by decide +kernel
theorem dX3_removeFirst_0 : decode cX3_removeFirst 0 = .ok (.iconst 1, 1) := by decide +kernel
theorem dX3_removeFirst_1 : decode cX3_removeFirst 1 = .ok (.istore_n 1, 1) := by decide +kernel
theorem dX3_removeFirst_2 : decode cX3_removeFirst 2 = .ok (.iload_n 1, 1) := by decide +kernel
theorem dX3_removeFirst_3 : decode cX3_removeFirst 3 = .ok (.aload_n 0, 1) := by decide +kernel
theorem dX3_removeFirst_4 : decode cX3_removeFirst 4 = .ok (.getfield 15, 3) := by decide +kernel
theorem dX3_removeFirst_7 : decode cX3_removeFirst 7 = .ok (.if_icmp .ge 23, 3) := by decide +kernel
theorem dX3_removeFirst_10 : decode cX3_removeFirst 10 = .ok (.aload_n 0, 1) := by decide +kernel
theorem dX3_removeFirst_11 : decode cX3_removeFirst 11 = .ok (.getfield 9, 3) := by decide +kernel
theorem dX3_removeFirst_14 : decode cX3_removeFirst 14 = .ok (.iload_n 1, 1) := by decide +kernel
theorem dX3_removeFirst_15 : decode cX3_removeFirst 15 = .ok (.iconst 1, 1) := by decide +kernel
theorem dX3_removeFirst_16 : decode cX3_removeFirst 16 = .ok (.isub, 1) := by decide +kernel
theorem dX3_removeFirst_17 : decode cX3_removeFirst 17 = .ok (.aload_n 0, 1) := by decide +kernel
theorem dX3_removeFirst_18 : decode cX3_removeFirst 18 = .ok (.getfield 9, 3) := by decide +kernel
theorem dX3_removeFirst_21 : decode cX3_removeFirst 21 = .ok (.iload_n 1, 1) := by decide +kernel
theorem dX3_removeFirst_22 : decode cX3_removeFirst 22 = .ok (.iaload, 1) := by decide +kernel
theorem dX3_removeFirst_23 : decode cX3_removeFirst 23 = .ok (.iastore, 1) := by decide +kernel
theorem dX3_removeFirst_24 : decode cX3_removeFirst 24 = .ok (.iinc 1 1, 3) := by decide +kernel
theorem dX3_removeFirst_27 : decode cX3_removeFirst 27 = .ok (.goto (-25), 3) := by decide +kernel
theorem dX3_removeFirst_30 : decode cX3_removeFirst 30 = .ok (.aload_n 0, 1) := by decide +kernel
theorem dX3_removeFirst_31 : decode cX3_removeFirst 31 = .ok (.getfield 15, 3) := by decide +kernel
theorem dX3_removeFirst_34 : decode cX3_removeFirst 34 = .ok (.ifCond .le 13, 3) := by decide +kernel
theorem dX3_removeFirst_37 : decode cX3_removeFirst 37 = .ok (.aload_n 0, 1) := by decide +kernel
theorem dX3_removeFirst_38 : decode cX3_removeFirst 38 = .ok (.dup, 1) := by decide +kernel
theorem dX3_removeFirst_39 : decode cX3_removeFirst 39 = .ok (.getfield 15, 3) := by decide +kernel
theorem dX3_removeFirst_42 : decode cX3_removeFirst 42 = .ok (.iconst 1, 1) := by decide +kernel
theorem dX3_removeFirst_43 : decode cX3_removeFirst 43 = .ok (.isub, 1) := by decide +kernel
theorem dX3_removeFirst_44 : decode cX3_removeFirst 44 = .ok (.putfield 15, 3) := by decide +kernel
theorem dX3_removeFirst_47 : decode cX3_removeFirst 47 = .ok (.return_, 1) := by decide +kernel
theorem dX4_init_0 : decode cX4_init 0 = .ok (.aload_n 0, 1) := by decide +kernel
theorem dX4_init_1 : decode cX4_init 1 = .ok (.invokespecial 3, 3) := by decide +kernel
theorem dX4_init_4 : decode cX4_init 4 = .ok (.aload_n 0, 1) := by decide +kernel
theorem dX4_init_5 : decode cX4_init 5 = .ok (.bipush 60, 2) := by decide +kernel
theorem dX4_init_7 : decode cX4_init 7 = .ok (.newarray .int, 2) := by decide +kernel
theorem dX4_init_9 : decode cX4_init 9 = .ok (.putfield 9, 3) := by decide +kernel
theorem dX4_init_12 : decode cX4_init 12 = .ok (.aload_n 0, 1) := by decide +kernel
theorem dX4_init_13 : decode cX4_init 13 = .ok (.bipush 60, 2) := by decide +kernel
theorem dX4_init_15 : decode cX4_init 15 = .ok (.newarray .int, 2) := by decide +kernel
theorem dX4_init_17 : decode cX4_init 17 = .ok (.putfield 15, 3) := by decide +kernel
theorem dX4_init_20 : decode cX4_init 20 = .ok (.aload_n 0, 1) := by decide +kernel
theorem dX4_init_21 : decode cX4_init 21 = .ok (.iconst 0, 1) := by decide +kernel
theorem dX4_init_22 : decode cX4_init 22 = .ok (.putfield 18, 3) := by decide +kernel
theorem dX4_init_25 : decode cX4_init 25 = .ok (.aload_n 0, 1) := by decide +kernel
theorem dX4_init_26 : decode cX4_init 26 = .ok (.iconst 0, 1) := by decide +kernel
theorem dX4_init_27 : decode cX4_init 27 = .ok (.putfield 22, 3) := by decide +kernel
theorem dX4_init_30 : decode cX4_init 30 = .ok (.return_, 1) := by decide +kernel
theorem dX4_holdsFor_0 : decode cX4_holdsFor 0 = .ok (.aload_n 0, 1) := by decide +kernel
theorem dX4_holdsFor_1 : decode cX4_holdsFor 1 = .ok (.iconst 0, 1) := by decide +kernel
theorem dX4_holdsFor_2 : decode cX4_holdsFor 2 = .ok (.putfield 18, 3) := by decide +kernel
theorem dX4_holdsFor_5 : decode cX4_holdsFor 5 = .ok (.aload_n 0, 1) := by decide +kernel
theorem dX4_holdsFor_6 : decode cX4_holdsFor 6 = .ok (.iconst 0, 1) := by decide +kernel
theorem dX4_holdsFor_7 : decode cX4_holdsFor 7 = .ok (.putfield 22, 3) := by decide +kernel
theorem dX4_holdsFor_10 : decode cX4_holdsFor 10 = .ok (.aload_n 0, 1) := by decide +kernel
theorem dX4_holdsFor_11 : decode cX4_holdsFor 11 = .ok (.getfield 9, 3) := by decide +kernel
theorem dX4_holdsFor_14 : decode cX4_holdsFor 14 = .ok (.iconst 0, 1) := by decide +kernel
theorem dX4_holdsFor_15 : decode cX4_holdsFor 15 = .ok (.iconst 0, 1) := by decide +kernel
theorem dX4_holdsFor_16 : decode cX4_holdsFor 16 = .ok (.iastore, 1) := by decide +kernel
theorem dX4_holdsFor_17 : decode cX4_holdsFor 17 = .ok (.iconst 0, 1) := by decide +kernel
theorem dX4_holdsFor_18 : decode cX4_holdsFor 18 = .ok (.istore_n 2, 1) := by decide +kernel
theorem dX4_holdsFor_19 : decode cX4_holdsFor 19 = .ok (.iload_n 2, 1) := by decide +kernel
theorem dX4_holdsFor_20 : decode cX4_holdsFor 20 = .ok (.aload_n 1, 1) := by decide +kernel
theorem dX4_holdsFor_21 : decode cX4_holdsFor 21 = .ok (.invokevirtual 25, 3) := by decide +kernel
theorem dX4_holdsFor_24 : decode cX4_holdsFor 24 = .ok (.if_icmp .ge 20, 3) := by decide +kernel
theorem dX4_holdsFor_27 : decode cX4_holdsFor 27 = .ok (.aload_n 0, 1) := by decide +kernel
theorem dX4_holdsFor_28 : decode cX4_holdsFor 28 = .ok (.aload_n 1, 1) := by decide +kernel
theorem dX4_holdsFor_29 : decode cX4_holdsFor 29 = .ok (.iload_n 2, 1) := by decide +kernel
theorem dX4_holdsFor_30 : decode cX4_holdsFor 30 = .ok (.invokevirtual 31, 3) := by decide +kernel
theorem dX4_holdsFor_33 : decode cX4_holdsFor 33 = .ok (.ifCond .ne 5, 3) := by decide +kernel
theorem dX4_holdsFor_36 : decode cX4_holdsFor 36 = .ok (.iconst 0, 1) := by decide +kernel
theorem dX4_holdsFor_37 : decode cX4_holdsFor 37 = .ok (.ireturn, 1) := by decide +kernel
theorem dX4_holdsFor_38 : decode cX4_holdsFor 38 = .ok (.iinc 2 1, 3) := by decide +kernel
theorem dX4_holdsFor_41 : decode cX4_holdsFor 41 = .ok (.goto (-22), 3) := by decide +kernel
theorem dX4_holdsFor_44 : decode cX4_holdsFor 44 = .ok (.iconst 1, 1) := by decide +kernel
theorem dX4_holdsFor_45 : decode cX4_holdsFor 45 = .ok (.ireturn, 1) := by decide +kernel
theorem dX4_isSoundAt_0 : decode cX4_isSoundAt 0 = .ok (.aload_n 1, 1) := by decide +kernel
theorem dX4_isSoundAt_1 : decode cX4_isSoundAt 1 = .ok (.iload_n 2, 1) := by decide +kernel
theorem dX4_isSoundAt_2 : decode cX4_isSoundAt 2 = .ok (.invokevirtual 35, 3) := by decide +kernel
theorem dX4_isSoundAt_5 : decode cX4_isSoundAt 5 = .ok (.istore_n 3, 1) := by decide +kernel
theorem dX4_isSoundAt_6 : decode cX4_isSoundAt 6 = .ok (.iload_n 3, 1) := by decide +kernel
theorem dX4_isSoundAt_7 : decode cX4_isSoundAt 7 = .ok (.lookupswitch 124 #[(44, 97), (109, 41), (123, 53), (125, 109)], 41) := by decide +kernel
theorem dX4_isSoundAt_48 : decode cX4_isSoundAt 48 = .ok (.aload_n 0, 1) := by decide +kernel
theorem dX4_isSoundAt_49 : decode cX4_isSoundAt 49 = .ok (.aload_n 1, 1) := by decide +kernel
theorem dX4_isSoundAt_50 : decode cX4_isSoundAt 50 = .ok (.iload_n 2, 1) := by decide +kernel
theorem dX4_isSoundAt_51 : decode cX4_isSoundAt 51 = .ok (.iconst 1, 1) := by decide +kernel
theorem dX4_isSoundAt_52 : decode cX4_isSoundAt 52 = .ok (.iadd, 1) := by decide +kernel
theorem dX4_isSoundAt_53 : decode cX4_isSoundAt 53 = .ok (.invokevirtual 35, 3) := by decide +kernel
theorem dX4_isSoundAt_56 : decode cX4_isSoundAt 56 = .ok (.invokevirtual 39, 3) := by decide +kernel
theorem dX4_isSoundAt_59 : decode cX4_isSoundAt 59 = .ok (.ireturn, 1) := by decide +kernel
theorem dX4_isSoundAt_60 : decode cX4_isSoundAt 60 = .ok (.aload_n 1, 1) := by decide +kernel
theorem dX4_isSoundAt_61 : decode cX4_isSoundAt 61 = .ok (.iload_n 2, 1) := by decide +kernel
theorem dX4_isSoundAt_62 : decode cX4_isSoundAt 62 = .ok (.iconst 2, 1) := by decide +kernel
theorem dX4_isSoundAt_63 : decode cX4_isSoundAt 63 = .ok (.isub, 1) := by decide +kernel
theorem dX4_isSoundAt_64 : decode cX4_isSoundAt 64 = .ok (.invokevirtual 35, 3) := by decide +kernel
theorem dX4_isSoundAt_67 : decode cX4_isSoundAt 67 = .ok (.aload_n 1, 1) := by decide +kernel
theorem dX4_isSoundAt_68 : decode cX4_isSoundAt 68 = .ok (.iload_n 2, 1) := by decide +kernel
theorem dX4_isSoundAt_69 : decode cX4_isSoundAt 69 = .ok (.iconst 1, 1) := by decide +kernel
theorem dX4_isSoundAt_70 : decode cX4_isSoundAt 70 = .ok (.isub, 1) := by decide +kernel
theorem dX4_isSoundAt_71 : decode cX4_isSoundAt 71 = .ok (.invokevirtual 35, 3) := by decide +kernel
theorem dX4_isSoundAt_74 : decode cX4_isSoundAt 74 = .ok (.if_icmp .eq 28, 3) := by decide +kernel
theorem dX4_isSoundAt_77 : decode cX4_isSoundAt 77 = .ok (.aload_n 0, 1) := by decide +kernel
theorem dX4_isSoundAt_78 : decode cX4_isSoundAt 78 = .ok (.invokevirtual 43, 3) := by decide +kernel
theorem dX4_isSoundAt_81 : decode cX4_isSoundAt 81 = .ok (.ifCond .eq 21, 3) := by decide +kernel
theorem dX4_isSoundAt_84 : decode cX4_isSoundAt 84 = .ok (.aload_n 0, 1) := by decide +kernel
theorem dX4_isSoundAt_85 : decode cX4_isSoundAt 85 = .ok (.aload_n 1, 1) := by decide +kernel
theorem dX4_isSoundAt_86 : decode cX4_isSoundAt 86 = .ok (.iload_n 2, 1) := by decide +kernel
theorem dX4_isSoundAt_87 : decode cX4_isSoundAt 87 = .ok (.iconst 1, 1) := by decide +kernel
theorem dX4_isSoundAt_88 : decode cX4_isSoundAt 88 = .ok (.iadd, 1) := by decide +kernel
theorem dX4_isSoundAt_89 : decode cX4_isSoundAt 89 = .ok (.invokevirtual 35, 3) := by decide +kernel
theorem dX4_isSoundAt_92 : decode cX4_isSoundAt 92 = .ok (.invokevirtual 47, 3) := by decide +kernel
theorem dX4_isSoundAt_95 : decode cX4_isSoundAt 95 = .ok (.ifCond .eq 7, 3) := by decide +kernel
theorem dX4_isSoundAt_98 : decode cX4_isSoundAt 98 = .ok (.iconst 1, 1) := by decide +kernel
theorem dX4_isSoundAt_99 : decode cX4_isSoundAt 99 = .ok (.goto 4, 3) := by decide +kernel
theorem dX4_isSoundAt_102 : decode cX4_isSoundAt 102 = .ok (.iconst 0, 1) := by decide +kernel
theorem dX4_isSoundAt_103 : decode cX4_isSoundAt 103 = .ok (.ireturn, 1) := by decide +kernel
theorem dX4_isSoundAt_104 : decode cX4_isSoundAt 104 = .ok (.aload_n 0, 1) := by decide +kernel
theorem dX4_isSoundAt_105 : decode cX4_isSoundAt 105 = .ok (.aload_n 1, 1) := by decide +kernel
theorem dX4_isSoundAt_106 : decode cX4_isSoundAt 106 = .ok (.iload_n 2, 1) := by decide +kernel
theorem dX4_isSoundAt_107 : decode cX4_isSoundAt 107 = .ok (.iconst 1, 1) := by decide +kernel
theorem dX4_isSoundAt_108 : decode cX4_isSoundAt 108 = .ok (.iadd, 1) := by decide +kernel
theorem dX4_isSoundAt_109 : decode cX4_isSoundAt 109 = .ok (.invokevirtual 35, 3) := by decide +kernel
theorem dX4_isSoundAt_112 : decode cX4_isSoundAt 112 = .ok (.invokevirtual 47, 3) := by decide +kernel
theorem dX4_isSoundAt_115 : decode cX4_isSoundAt 115 = .ok (.ireturn, 1) := by decide +kernel
theorem dX4_isSoundAt_116 : decode cX4_isSoundAt 116 = .ok (.aload_n 0, 1) := by decide +kernel
theorem dX4_isSoundAt_117 : decode cX4_isSoundAt 117 = .ok (.dup, 1) := by decide +kernel
theorem dX4_isSoundAt_118 : decode cX4_isSoundAt 118 = .ok (.getfield 18, 3) := by decide +kernel
theorem dX4_isSoundAt_121 : decode cX4_isSoundAt 121 = .ok (.iconst 1, 1) := by decide +kernel
theorem dX4_isSoundAt_122 : decode cX4_isSoundAt 122 = .ok (.isub, 1) := by decide +kernel
theorem dX4_isSoundAt_123 : decode cX4_isSoundAt 123 = .ok (.putfield 18, 3) := by decide +kernel
theorem dX4_isSoundAt_126 : decode cX4_isSoundAt 126 = .ok (.aload_n 0, 1) := by decide +kernel
theorem dX4_isSoundAt_127 : decode cX4_isSoundAt 127 = .ok (.invokevirtual 50, 3) := by decide +kernel
theorem dX4_isSoundAt_130 : decode cX4_isSoundAt 130 = .ok (.ireturn, 1) := by decide +kernel
theorem dX4_isSoundAt_131 : decode cX4_isSoundAt 131 = .ok (.iload_n 3, 1) := by decide +kernel
theorem dX4_isSoundAt_132 : decode cX4_isSoundAt 132 = .ok (.invokestatic 53, 3) := by decide +kernel
theorem dX4_isSoundAt_135 : decode cX4_isSoundAt 135 = .ok (.ifCond .eq 19, 3) := by decide +kernel
theorem dX4_isSoundAt_138 : decode cX4_isSoundAt 138 = .ok (.aload_n 1, 1) := by decide +kernel
theorem dX4_isSoundAt_139 : decode cX4_isSoundAt 139 = .ok (.iload_n 2, 1) := by decide +kernel
theorem dX4_isSoundAt_140 : decode cX4_isSoundAt 140 = .ok (.iconst 1, 1) := by decide +kernel
theorem dX4_isSoundAt_141 : decode cX4_isSoundAt 141 = .ok (.isub, 1) := by decide +kernel
theorem dX4_isSoundAt_142 : decode cX4_isSoundAt 142 = .ok (.invokevirtual 35, 3) := by decide +kernel
theorem dX4_isSoundAt_145 : decode cX4_isSoundAt 145 = .ok (.bipush 109, 2) := by decide +kernel
theorem dX4_isSoundAt_147 : decode cX4_isSoundAt 147 = .ok (.if_icmp .eq 7, 3) := by decide +kernel
theorem dX4_isSoundAt_150 : decode cX4_isSoundAt 150 = .ok (.iconst 1, 1) := by decide +kernel
theorem dX4_isSoundAt_151 : decode cX4_isSoundAt 151 = .ok (.goto 4, 3) := by decide +kernel
theorem dX4_isSoundAt_154 : decode cX4_isSoundAt 154 = .ok (.iconst 0, 1) := by decide +kernel
theorem dX4_isSoundAt_155 : decode cX4_isSoundAt 155 = .ok (.istore 4, 2) := by decide +kernel
theorem dX4_isSoundAt_157 : decode cX4_isSoundAt 157 = .ok (.iload 4, 2) := by decide +kernel
theorem dX4_isSoundAt_159 : decode cX4_isSoundAt 159 = .ok (.ifCond .eq 11, 3) := by decide +kernel
theorem dX4_isSoundAt_162 : decode cX4_isSoundAt 162 = .ok (.aload_n 0, 1) := by decide +kernel
theorem dX4_isSoundAt_163 : decode cX4_isSoundAt 163 = .ok (.iload_n 3, 1) := by decide +kernel
theorem dX4_isSoundAt_164 : decode cX4_isSoundAt 164 = .ok (.invokevirtual 56, 3) := by decide +kernel
theorem dX4_isSoundAt_167 : decode cX4_isSoundAt 167 = .ok (.ifCond .eq 7, 3) := by decide +kernel
theorem dX4_isSoundAt_170 : decode cX4_isSoundAt 170 = .ok (.iconst 1, 1) := by decide +kernel
theorem dX4_isSoundAt_171 : decode cX4_isSoundAt 171 = .ok (.goto 4, 3) := by decide +kernel
theorem dX4_isSoundAt_174 : decode cX4_isSoundAt 174 = .ok (.iconst 0, 1) := by decide +kernel
theorem dX4_isSoundAt_175 : decode cX4_isSoundAt 175 = .ok (.ireturn, 1) := by decide +kernel
theorem dX4_openLoop_0 : decode cX4_openLoop 0 = .ok (.iconst 1, 1) := by decide +kernel
theorem dX4_openLoop_1 : decode cX4_openLoop 1 = .ok (.iload_n 1, 1) := by decide +kernel
theorem dX4_openLoop_2 : decode cX4_openLoop 2 = .ok (.bipush 88, 2) := by decide +kernel
theorem dX4_openLoop_4 : decode cX4_openLoop 4 = .ok (.isub, 1) := by decide +kernel
theorem dX4_openLoop_5 : decode cX4_openLoop 5 = .ok (.ishl, 1) := by decide +kernel
theorem dX4_openLoop_6 : decode cX4_openLoop 6 = .ok (.istore_n 2, 1) := by decide +kernel
theorem dX4_openLoop_7 : decode cX4_openLoop 7 = .ok (.aload_n 0, 1) := by decide +kernel
theorem dX4_openLoop_8 : decode cX4_openLoop 8 = .ok (.getfield 22, 3) := by decide +kernel
theorem dX4_openLoop_11 : decode cX4_openLoop 11 = .ok (.iload_n 2, 1) := by decide +kernel
theorem dX4_openLoop_12 : decode cX4_openLoop 12 = .ok (.iand, 1) := by decide +kernel
theorem dX4_openLoop_13 : decode cX4_openLoop 13 = .ok (.ifCond .eq 5, 3) := by decide +kernel
theorem dX4_openLoop_16 : decode cX4_openLoop 16 = .ok (.iconst 0, 1) := by decide +kernel
theorem dX4_openLoop_17 : decode cX4_openLoop 17 = .ok (.ireturn, 1) := by decide +kernel
theorem dX4_openLoop_18 : decode cX4_openLoop 18 = .ok (.aload_n 0, 1) := by decide +kernel
theorem dX4_openLoop_19 : decode cX4_openLoop 19 = .ok (.dup, 1) := by decide +kernel
theorem dX4_openLoop_20 : decode cX4_openLoop 20 = .ok (.getfield 22, 3) := by decide +kernel
theorem dX4_openLoop_23 : decode cX4_openLoop 23 = .ok (.iload_n 2, 1) := by decide +kernel
theorem dX4_openLoop_24 : decode cX4_openLoop 24 = .ok (.ior, 1) := by decide +kernel
theorem dX4_openLoop_25 : decode cX4_openLoop 25 = .ok (.putfield 22, 3) := by decide +kernel
theorem dX4_openLoop_28 : decode cX4_openLoop 28 = .ok (.iconst 1, 1) := by decide +kernel
theorem dX4_openLoop_29 : decode cX4_openLoop 29 = .ok (.ireturn, 1) := by decide +kernel
theorem dX4_openMessage_0 : decode cX4_openMessage 0 = .ok (.aload_n 0, 1) := by decide +kernel
theorem dX4_openMessage_1 : decode cX4_openMessage 1 = .ok (.dup, 1) := by decide +kernel
theorem dX4_openMessage_2 : decode cX4_openMessage 2 = .ok (.getfield 18, 3) := by decide +kernel
theorem dX4_openMessage_5 : decode cX4_openMessage 5 = .ok (.iconst 1, 1) := by decide +kernel
theorem dX4_openMessage_6 : decode cX4_openMessage 6 = .ok (.iadd, 1) := by decide +kernel
theorem dX4_openMessage_7 : decode cX4_openMessage 7 = .ok (.putfield 18, 3) := by decide +kernel
theorem dX4_openMessage_10 : decode cX4_openMessage 10 = .ok (.aload_n 0, 1) := by decide +kernel
theorem dX4_openMessage_11 : decode cX4_openMessage 11 = .ok (.invokevirtual 50, 3) := by decide +kernel
theorem dX4_openMessage_14 : decode cX4_openMessage 14 = .ok (.ifCond .ne 5, 3) := by decide +kernel
theorem dX4_openMessage_17 : decode cX4_openMessage 17 = .ok (.iconst 0, 1) := by decide +kernel
theorem dX4_openMessage_18 : decode cX4_openMessage 18 = .ok (.ireturn, 1) := by decide +kernel
theorem dX4_openMessage_19 : decode cX4_openMessage 19 = .ok (.aload_n 0, 1) := by decide +kernel
theorem dX4_openMessage_20 : decode cX4_openMessage 20 = .ok (.getfield 9, 3) := by decide +kernel
theorem dX4_openMessage_23 : decode cX4_openMessage 23 = .ok (.aload_n 0, 1) := by decide +kernel
theorem dX4_openMessage_24 : decode cX4_openMessage 24 = .ok (.getfield 18, 3) := by decide +kernel
theorem dX4_openMessage_27 : decode cX4_openMessage 27 = .ok (.aload_n 0, 1) := by decide +kernel
theorem dX4_openMessage_28 : decode cX4_openMessage 28 = .ok (.getfield 22, 3) := by decide +kernel
theorem dX4_openMessage_31 : decode cX4_openMessage 31 = .ok (.iastore, 1) := by decide +kernel
theorem dX4_openMessage_32 : decode cX4_openMessage 32 = .ok (.aload_n 0, 1) := by decide +kernel
theorem dX4_openMessage_33 : decode cX4_openMessage 33 = .ok (.getfield 15, 3) := by decide +kernel
theorem dX4_openMessage_36 : decode cX4_openMessage 36 = .ok (.aload_n 0, 1) := by decide +kernel
theorem dX4_openMessage_37 : decode cX4_openMessage 37 = .ok (.getfield 18, 3) := by decide +kernel
theorem dX4_openMessage_40 : decode cX4_openMessage 40 = .ok (.iconst 0, 1) := by decide +kernel
theorem dX4_openMessage_41 : decode cX4_openMessage 41 = .ok (.iastore, 1) := by decide +kernel
theorem dX4_openMessage_42 : decode cX4_openMessage 42 = .ok (.iconst 1, 1) := by decide +kernel
theorem dX4_openMessage_43 : decode cX4_openMessage 43 = .ok (.ireturn, 1) := by decide +kernel
theorem dX4_openBranch_0 : decode cX4_openBranch 0 = .ok (.iconst 1, 1) := by decide +kernel
theorem dX4_openBranch_1 : decode cX4_openBranch 1 = .ok (.iload_n 1, 1) := by decide +kernel
theorem dX4_openBranch_2 : decode cX4_openBranch 2 = .ok (.bipush 112, 2) := by decide +kernel
theorem dX4_openBranch_4 : decode cX4_openBranch 4 = .ok (.isub, 1) := by decide +kernel
theorem dX4_openBranch_5 : decode cX4_openBranch 5 = .ok (.ishl, 1) := by decide +kernel
theorem dX4_openBranch_6 : decode cX4_openBranch 6 = .ok (.istore_n 2, 1) := by decide +kernel
theorem dX4_openBranch_7 : decode cX4_openBranch 7 = .ok (.aload_n 0, 1) := by decide +kernel
theorem dX4_openBranch_8 : decode cX4_openBranch 8 = .ok (.invokevirtual 50, 3) := by decide +kernel
theorem dX4_openBranch_11 : decode cX4_openBranch 11 = .ok (.ifCond .eq 17, 3) := by decide +kernel
theorem dX4_openBranch_14 : decode cX4_openBranch 14 = .ok (.aload_n 0, 1) := by decide +kernel
theorem dX4_openBranch_15 : decode cX4_openBranch 15 = .ok (.getfield 15, 3) := by decide +kernel
theorem dX4_openBranch_18 : decode cX4_openBranch 18 = .ok (.aload_n 0, 1) := by decide +kernel
theorem dX4_openBranch_19 : decode cX4_openBranch 19 = .ok (.getfield 18, 3) := by decide +kernel
theorem dX4_openBranch_22 : decode cX4_openBranch 22 = .ok (.iaload, 1) := by decide +kernel
theorem dX4_openBranch_23 : decode cX4_openBranch 23 = .ok (.iload_n 2, 1) := by decide +kernel
theorem dX4_openBranch_24 : decode cX4_openBranch 24 = .ok (.iand, 1) := by decide +kernel
theorem dX4_openBranch_25 : decode cX4_openBranch 25 = .ok (.ifCond .eq 5, 3) := by decide +kernel
theorem dX4_openBranch_28 : decode cX4_openBranch 28 = .ok (.iconst 0, 1) := by decide +kernel
theorem dX4_openBranch_29 : decode cX4_openBranch 29 = .ok (.ireturn, 1) := by decide +kernel
theorem dX4_openBranch_30 : decode cX4_openBranch 30 = .ok (.aload_n 0, 1) := by decide +kernel
theorem dX4_openBranch_31 : decode cX4_openBranch 31 = .ok (.getfield 15, 3) := by decide +kernel
theorem dX4_openBranch_34 : decode cX4_openBranch 34 = .ok (.aload_n 0, 1) := by decide +kernel
theorem dX4_openBranch_35 : decode cX4_openBranch 35 = .ok (.getfield 18, 3) := by decide +kernel
theorem dX4_openBranch_38 : decode cX4_openBranch 38 = .ok (.dup2, 1) := by decide +kernel
theorem dX4_openBranch_39 : decode cX4_openBranch 39 = .ok (.iaload, 1) := by decide +kernel
theorem dX4_openBranch_40 : decode cX4_openBranch 40 = .ok (.iload_n 2, 1) := by decide +kernel
theorem dX4_openBranch_41 : decode cX4_openBranch 41 = .ok (.ior, 1) := by decide +kernel
theorem dX4_openBranch_42 : decode cX4_openBranch 42 = .ok (.iastore, 1) := by decide +kernel
theorem dX4_openBranch_43 : decode cX4_openBranch 43 = .ok (.aload_n 0, 1) := by decide +kernel
theorem dX4_openBranch_44 : decode cX4_openBranch 44 = .ok (.aload_n 0, 1) := by decide +kernel
theorem dX4_openBranch_45 : decode cX4_openBranch 45 = .ok (.getfield 9, 3) := by decide +kernel
theorem dX4_openBranch_48 : decode cX4_openBranch 48 = .ok (.aload_n 0, 1) := by decide +kernel
theorem dX4_openBranch_49 : decode cX4_openBranch 49 = .ok (.getfield 18, 3) := by decide +kernel
theorem dX4_openBranch_52 : decode cX4_openBranch 52 = .ok (.iaload, 1) := by decide +kernel
theorem dX4_openBranch_53 : decode cX4_openBranch 53 = .ok (.putfield 22, 3) := by decide +kernel
theorem dX4_openBranch_56 : decode cX4_openBranch 56 = .ok (.iconst 1, 1) := by decide +kernel
theorem dX4_openBranch_57 : decode cX4_openBranch 57 = .ok (.ireturn, 1) := by decide +kernel
theorem dX4_isLoopAroundMessage_0 : decode cX4_isLoopAroundMessage 0 = .ok (.iconst 1, 1) := by decide +kernel
theorem dX4_isLoopAroundMessage_1 : decode cX4_isLoopAroundMessage 1 = .ok (.iload_n 1, 1) := by decide +kernel
theorem dX4_isLoopAroundMessage_2 : decode cX4_isLoopAroundMessage 2 = .ok (.bipush 88, 2) := by decide +kernel
theorem dX4_isLoopAroundMessage_4 : decode cX4_isLoopAroundMessage 4 = .ok (.isub, 1) := by decide +kernel
theorem dX4_isLoopAroundMessage_5 : decode cX4_isLoopAroundMessage 5 = .ok (.ishl, 1) := by decide +kernel
theorem dX4_isLoopAroundMessage_6 : decode cX4_isLoopAroundMessage 6 = .ok (.istore_n 2, 1) := by decide +kernel
theorem dX4_isLoopAroundMessage_7 : decode cX4_isLoopAroundMessage 7 = .ok (.aload_n 0, 1) := by decide +kernel
theorem dX4_isLoopAroundMessage_8 : decode cX4_isLoopAroundMessage 8 = .ok (.invokevirtual 50, 3) := by decide +kernel
theorem dX4_isLoopAroundMessage_11 : decode cX4_isLoopAroundMessage 11 = .ok (.ifCond .eq 21, 3) := by decide +kernel
theorem dX4_isLoopAroundMessage_14 : decode cX4_isLoopAroundMessage 14 = .ok (.aload_n 0, 1) := by decide +kernel
theorem dX4_isLoopAroundMessage_15 : decode cX4_isLoopAroundMessage 15 = .ok (.getfield 9, 3) := by decide +kernel
theorem dX4_isLoopAroundMessage_18 : decode cX4_isLoopAroundMessage 18 = .ok (.aload_n 0, 1) := by decide +kernel
theorem dX4_isLoopAroundMessage_19 : decode cX4_isLoopAroundMessage 19 = .ok (.getfield 18, 3) := by decide +kernel
theorem dX4_isLoopAroundMessage_22 : decode cX4_isLoopAroundMessage 22 = .ok (.iaload, 1) := by decide +kernel
theorem dX4_isLoopAroundMessage_23 : decode cX4_isLoopAroundMessage 23 = .ok (.iload_n 2, 1) := by decide +kernel
theorem dX4_isLoopAroundMessage_24 : decode cX4_isLoopAroundMessage 24 = .ok (.iand, 1) := by decide +kernel
theorem dX4_isLoopAroundMessage_25 : decode cX4_isLoopAroundMessage 25 = .ok (.ifCond .eq 7, 3) := by decide +kernel
theorem dX4_isLoopAroundMessage_28 : decode cX4_isLoopAroundMessage 28 = .ok (.iconst 1, 1) := by decide +kernel
theorem dX4_isLoopAroundMessage_29 : decode cX4_isLoopAroundMessage 29 = .ok (.goto 4, 3) := by decide +kernel
theorem dX4_isLoopAroundMessage_32 : decode cX4_isLoopAroundMessage 32 = .ok (.iconst 0, 1) := by decide +kernel
theorem dX4_isLoopAroundMessage_33 : decode cX4_isLoopAroundMessage 33 = .ok (.ireturn, 1) := by decide +kernel
theorem dX4_isInBounds_0 : decode cX4_isInBounds 0 = .ok (.aload_n 0, 1) := by decide +kernel
theorem dX4_isInBounds_1 : decode cX4_isInBounds 1 = .ok (.getfield 18, 3) := by decide +kernel
theorem dX4_isInBounds_4 : decode cX4_isInBounds 4 = .ok (.ifCond .lt 16, 3) := by decide +kernel
theorem dX4_isInBounds_7 : decode cX4_isInBounds 7 = .ok (.aload_n 0, 1) := by decide +kernel
theorem dX4_isInBounds_8 : decode cX4_isInBounds 8 = .ok (.getfield 18, 3) := by decide +kernel
theorem dX4_isInBounds_11 : decode cX4_isInBounds 11 = .ok (.bipush 60, 2) := by decide +kernel
theorem dX4_isInBounds_13 : decode cX4_isInBounds 13 = .ok (.if_icmp .ge 7, 3) := by decide +kernel
theorem dX4_isInBounds_16 : decode cX4_isInBounds 16 = .ok (.iconst 1, 1) := by decide +kernel
theorem dX4_isInBounds_17 : decode cX4_isInBounds 17 = .ok (.goto 4, 3) := by decide +kernel
theorem dX4_isInBounds_20 : decode cX4_isInBounds 20 = .ok (.iconst 0, 1) := by decide +kernel
theorem dX4_isInBounds_21 : decode cX4_isInBounds 21 = .ok (.ireturn, 1) := by decide +kernel
theorem dX5_init_0 : decode cX5_init 0 = .ok (.aload_n 0, 1) := by decide +kernel
theorem dX5_init_1 : decode cX5_init 1 = .ok (.invokespecial 3, 3) := by decide +kernel
theorem dX5_init_4 : decode cX5_init 4 = .ok (.aload_n 0, 1) := by decide +kernel
theorem dX5_init_5 : decode cX5_init 5 = .ok (.bipush 60, 2) := by decide +kernel
theorem dX5_init_7 : decode cX5_init 7 = .ok (.newarray .char, 2) := by decide +kernel
theorem dX5_init_9 : decode cX5_init 9 = .ok (.putfield 9, 3) := by decide +kernel
theorem dX5_init_12 : decode cX5_init 12 = .ok (.aload_n 0, 1) := by decide +kernel
theorem dX5_init_13 : decode cX5_init 13 = .ok (.iconst 0, 1) := by decide +kernel
theorem dX5_init_14 : decode cX5_init 14 = .ok (.putfield 15, 3) := by decide +kernel
theorem dX5_init_17 : decode cX5_init 17 = .ok (.return_, 1) := by decide +kernel
theorem dX5_size_0 : decode cX5_size 0 = .ok (.aload_n 0, 1) := by decide +kernel
theorem dX5_size_1 : decode cX5_size 1 = .ok (.getfield 15, 3) := by decide +kernel
theorem dX5_size_4 : decode cX5_size 4 = .ok (.ireturn, 1) := by decide +kernel
theorem dX5_get_0 : decode cX5_get 0 = .ok (.iload_n 1, 1) := by decide +kernel
theorem dX5_get_1 : decode cX5_get 1 = .ok (.ifCond .lt 20, 3) := by decide +kernel
theorem dX5_get_4 : decode cX5_get 4 = .ok (.iload_n 1, 1) := by decide +kernel
theorem dX5_get_5 : decode cX5_get 5 = .ok (.aload_n 0, 1) := by decide +kernel
theorem dX5_get_6 : decode cX5_get 6 = .ok (.getfield 15, 3) := by decide +kernel
theorem dX5_get_9 : decode cX5_get 9 = .ok (.if_icmp .ge 12, 3) := by decide +kernel
theorem dX5_get_12 : decode cX5_get 12 = .ok (.aload_n 0, 1) := by decide +kernel
theorem dX5_get_13 : decode cX5_get 13 = .ok (.getfield 9, 3) := by decide +kernel
theorem dX5_get_16 : decode cX5_get 16 = .ok (.iload_n 1, 1) := by decide +kernel
theorem dX5_get_17 : decode cX5_get 17 = .ok (.caload, 1) := by decide +kernel
theorem dX5_get_18 : decode cX5_get 18 = .ok (.goto 4, 3) := by decide +kernel
theorem dX5_get_21 : decode cX5_get 21 = .ok (.iconst 0, 1) := by decide +kernel
theorem dX5_get_22 : decode cX5_get 22 = .ok (.ireturn, 1) := by decide +kernel
theorem dX5_append_0 : decode cX5_append 0 = .ok (.aload_n 0, 1) := by decide +kernel
theorem dX5_append_1 : decode cX5_append 1 = .ok (.aload_n 0, 1) := by decide +kernel
theorem dX5_append_2 : decode cX5_append 2 = .ok (.getfield 15, 3) := by decide +kernel
theorem dX5_append_5 : decode cX5_append 5 = .ok (.iload_n 1, 1) := by decide +kernel
theorem dX5_append_6 : decode cX5_append 6 = .ok (.invokevirtual 19, 3) := by decide +kernel
theorem dX5_append_9 : decode cX5_append 9 = .ok (.ireturn, 1) := by decide +kernel
theorem dX5_insert_0 : decode cX5_insert 0 = .ok (.aload_n 0, 1) := by decide +kernel
theorem dX5_insert_1 : decode cX5_insert 1 = .ok (.getfield 15, 3) := by decide +kernel
theorem dX5_insert_4 : decode cX5_insert 4 = .ok (.bipush 60, 2) := by decide +kernel
theorem dX5_insert_6 : decode cX5_insert 6 = .ok (.if_icmp .ge 15, 3) := by decide +kernel
theorem dX5_insert_9 : decode cX5_insert 9 = .ok (.iload_n 1, 1) := by decide +kernel
theorem dX5_insert_10 : decode cX5_insert 10 = .ok (.ifCond .lt 11, 3) := by decide +kernel
theorem dX5_insert_13 : decode cX5_insert 13 = .ok (.iload_n 1, 1) := by decide +kernel
theorem dX5_insert_14 : decode cX5_insert 14 = .ok (.aload_n 0, 1) := by decide +kernel
theorem dX5_insert_15 : decode cX5_insert 15 = .ok (.getfield 15, 3) := by decide +kernel
theorem dX5_insert_18 : decode cX5_insert 18 = .ok (.if_icmp .le 5, 3) := by decide +kernel
theorem dX5_insert_21 : decode cX5_insert 21 = .ok (.iconst 0, 1) := by decide +kernel
theorem dX5_insert_22 : decode cX5_insert 22 = .ok (.ireturn, 1) := by decide +kernel
theorem dX5_insert_23 : decode cX5_insert 23 = .ok (.aload_n 0, 1) := by decide +kernel
theorem dX5_insert_24 : decode cX5_insert 24 = .ok (.getfield 15, 3) := by decide +kernel
theorem dX5_insert_27 : decode cX5_insert 27 = .ok (.istore_n 3, 1) := by decide +kernel
theorem dX5_insert_28 : decode cX5_insert 28 = .ok (.iload_n 3, 1) := by decide +kernel
theorem dX5_insert_29 : decode cX5_insert 29 = .ok (.iload_n 1, 1) := by decide +kernel
theorem dX5_insert_30 : decode cX5_insert 30 = .ok (.if_icmp .le 23, 3) := by decide +kernel
theorem dX5_insert_33 : decode cX5_insert 33 = .ok (.aload_n 0, 1) := by decide +kernel
theorem dX5_insert_34 : decode cX5_insert 34 = .ok (.getfield 9, 3) := by decide +kernel
theorem dX5_insert_37 : decode cX5_insert 37 = .ok (.iload_n 3, 1) := by decide +kernel
theorem dX5_insert_38 : decode cX5_insert 38 = .ok (.aload_n 0, 1) := by decide +kernel
theorem dX5_insert_39 : decode cX5_insert 39 = .ok (.getfield 9, 3) := by decide +kernel
theorem dX5_insert_42 : decode cX5_insert 42 = .ok (.iload_n 3, 1) := by decide +kernel
theorem dX5_insert_43 : decode cX5_insert 43 = .ok (.iconst 1, 1) := by decide +kernel
theorem dX5_insert_44 : decode cX5_insert 44 = .ok (.isub, 1) := by decide +kernel
theorem dX5_insert_45 : decode cX5_insert 45 = .ok (.caload, 1) := by decide +kernel
theorem dX5_insert_46 : decode cX5_insert 46 = .ok (.castore, 1) := by decide +kernel
theorem dX5_insert_47 : decode cX5_insert 47 = .ok (.iinc 3 (-1), 3) := by decide +kernel
theorem dX5_insert_50 : decode cX5_insert 50 = .ok (.goto (-22), 3) := by decide +kernel
theorem dX5_insert_53 : decode cX5_insert 53 = .ok (.aload_n 0, 1) := by decide +kernel
theorem dX5_insert_54 : decode cX5_insert 54 = .ok (.getfield 9, 3) := by decide +kernel
theorem dX5_insert_57 : decode cX5_insert 57 = .ok (.iload_n 1, 1) := by decide +kernel
theorem dX5_insert_58 : decode cX5_insert 58 = .ok (.iload_n 2, 1) := by decide +kernel
theorem dX5_insert_59 : decode cX5_insert 59 = .ok (.castore, 1) := by decide +kernel
theorem dX5_insert_60 : decode cX5_insert 60 = .ok (.aload_n 0, 1) := by decide +kernel
theorem dX5_insert_61 : decode cX5_insert 61 = .ok (.dup, 1) := by decide +kernel
theorem dX5_insert_62 : decode cX5_insert 62 = .ok (.getfield 15, 3) := by decide +kernel
theorem dX5_insert_65 : decode cX5_insert 65 = .ok (.iconst 1, 1) := by decide +kernel
theorem dX5_insert_66 : decode cX5_insert 66 = .ok (.iadd, 1) := by decide +kernel
theorem dX5_insert_67 : decode cX5_insert 67 = .ok (.putfield 15, 3) := by decide +kernel
theorem dX5_insert_70 : decode cX5_insert 70 = .ok (.iconst 1, 1) := by decide +kernel
theorem dX5_insert_71 : decode cX5_insert 71 = .ok (.ireturn, 1) := by decide +kernel
theorem dX5_shorten_0 : decode cX5_shorten 0 = .ok (.iload_n 1, 1) := by decide +kernel
theorem dX5_shorten_1 : decode cX5_shorten 1 = .ok (.ifCond .lt 16, 3) := by decide +kernel
theorem dX5_shorten_4 : decode cX5_shorten 4 = .ok (.iload_n 1, 1) := by decide +kernel
theorem dX5_shorten_5 : decode cX5_shorten 5 = .ok (.aload_n 0, 1) := by decide +kernel
theorem dX5_shorten_6 : decode cX5_shorten 6 = .ok (.getfield 15, 3) := by decide +kernel
theorem dX5_shorten_9 : decode cX5_shorten 9 = .ok (.if_icmp .ge 8, 3) := by decide +kernel
theorem dX5_shorten_12 : decode cX5_shorten 12 = .ok (.aload_n 0, 1) := by decide +kernel
theorem dX5_shorten_13 : decode cX5_shorten 13 = .ok (.iload_n 1, 1) := by decide +kernel
theorem dX5_shorten_14 : decode cX5_shorten 14 = .ok (.putfield 15, 3) := by decide +kernel
theorem dX5_shorten_17 : decode cX5_shorten 17 = .ok (.return_, 1) := by decide +kernel
theorem dX5_countOf_0 : decode cX5_countOf 0 = .ok (.iconst 0, 1) := by decide +kernel
theorem dX5_countOf_1 : decode cX5_countOf 1 = .ok (.istore_n 2, 1) := by decide +kernel
theorem dX5_countOf_2 : decode cX5_countOf 2 = .ok (.iconst 0, 1) := by decide +kernel
theorem dX5_countOf_3 : decode cX5_countOf 3 = .ok (.istore_n 3, 1) := by decide +kernel
theorem dX5_countOf_4 : decode cX5_countOf 4 = .ok (.iload_n 3, 1) := by decide +kernel
theorem dX5_countOf_5 : decode cX5_countOf 5 = .ok (.aload_n 0, 1) := by decide +kernel
theorem dX5_countOf_6 : decode cX5_countOf 6 = .ok (.getfield 15, 3) := by decide +kernel
theorem dX5_countOf_9 : decode cX5_countOf 9 = .ok (.if_icmp .ge 21, 3) := by decide +kernel
theorem dX5_countOf_12 : decode cX5_countOf 12 = .ok (.aload_n 0, 1) := by decide +kernel
theorem dX5_countOf_13 : decode cX5_countOf 13 = .ok (.iload_n 3, 1) := by decide +kernel
theorem dX5_countOf_14 : decode cX5_countOf 14 = .ok (.invokevirtual 23, 3) := by decide +kernel
theorem dX5_countOf_17 : decode cX5_countOf 17 = .ok (.iload_n 1, 1) := by decide +kernel
theorem dX5_countOf_18 : decode cX5_countOf 18 = .ok (.if_icmp .ne 6, 3) := by decide +kernel
theorem dX5_countOf_21 : decode cX5_countOf 21 = .ok (.iinc 2 1, 3) := by decide +kernel
theorem dX5_countOf_24 : decode cX5_countOf 24 = .ok (.iinc 3 1, 3) := by decide +kernel
theorem dX5_countOf_27 : decode cX5_countOf 27 = .ok (.goto (-23), 3) := by decide +kernel
theorem dX5_countOf_30 : decode cX5_countOf 30 = .ok (.iload_n 2, 1) := by decide +kernel
theorem dX5_countOf_31 : decode cX5_countOf 31 = .ok (.ireturn, 1) := by decide +kernel
theorem dX5_hasFrom_0 : decode cX5_hasFrom 0 = .ok (.iload_n 1, 1) := by decide +kernel
theorem dX5_hasFrom_1 : decode cX5_hasFrom 1 = .ok (.istore_n 3, 1) := by decide +kernel
theorem dX5_hasFrom_2 : decode cX5_hasFrom 2 = .ok (.iload_n 3, 1) := by decide +kernel
theorem dX5_hasFrom_3 : decode cX5_hasFrom 3 = .ok (.aload_n 0, 1) := by decide +kernel
theorem dX5_hasFrom_4 : decode cX5_hasFrom 4 = .ok (.getfield 15, 3) := by decide +kernel
theorem dX5_hasFrom_7 : decode cX5_hasFrom 7 = .ok (.if_icmp .ge 20, 3) := by decide +kernel
theorem dX5_hasFrom_10 : decode cX5_hasFrom 10 = .ok (.aload_n 0, 1) := by decide +kernel
theorem dX5_hasFrom_11 : decode cX5_hasFrom 11 = .ok (.iload_n 3, 1) := by decide +kernel
theorem dX5_hasFrom_12 : decode cX5_hasFrom 12 = .ok (.invokevirtual 23, 3) := by decide +kernel
theorem dX5_hasFrom_15 : decode cX5_hasFrom 15 = .ok (.iload_n 2, 1) := by decide +kernel
theorem dX5_hasFrom_16 : decode cX5_hasFrom 16 = .ok (.if_icmp .ne 5, 3) := by decide +kernel
theorem dX5_hasFrom_19 : decode cX5_hasFrom 19 = .ok (.iconst 1, 1) := by decide +kernel
theorem dX5_hasFrom_20 : decode cX5_hasFrom 20 = .ok (.ireturn, 1) := by decide +kernel
theorem dX5_hasFrom_21 : decode cX5_hasFrom 21 = .ok (.iinc 3 1, 3) := by decide +kernel
theorem dX5_hasFrom_24 : decode cX5_hasFrom 24 = .ok (.goto (-22), 3) := by decide +kernel
theorem dX5_hasFrom_27 : decode cX5_hasFrom 27 = .ok (.iconst 0, 1) := by decide +kernel
theorem dX5_hasFrom_28 : decode cX5_hasFrom 28 = .ok (.ireturn, 1) := by decide +kernel
theorem dX5_isTwice_0 : decode cX5_isTwice 0 = .ok (.iload_n 2, 1) := by decide +kernel
theorem dX5_isTwice_1 : decode cX5_isTwice 1 = .ok (.iload_n 1, 1) := by decide +kernel
theorem dX5_isTwice_2 : decode cX5_isTwice 2 = .ok (.isub, 1) := by decide +kernel
theorem dX5_isTwice_3 : decode cX5_isTwice 3 = .ok (.istore_n 3, 1) := by decide +kernel
theorem dX5_isTwice_4 : decode cX5_isTwice 4 = .ok (.aload_n 0, 1) := by decide +kernel
theorem dX5_isTwice_5 : decode cX5_isTwice 5 = .ok (.getfield 15, 3) := by decide +kernel
theorem dX5_isTwice_8 : decode cX5_isTwice 8 = .ok (.iload_n 2, 1) := by decide +kernel
theorem dX5_isTwice_9 : decode cX5_isTwice 9 = .ok (.isub, 1) := by decide +kernel
theorem dX5_isTwice_10 : decode cX5_isTwice 10 = .ok (.iload_n 3, 1) := by decide +kernel
theorem dX5_isTwice_11 : decode cX5_isTwice 11 = .ok (.if_icmp .eq 5, 3) := by decide +kernel
theorem dX5_isTwice_14 : decode cX5_isTwice 14 = .ok (.iconst 0, 1) := by decide +kernel
theorem dX5_isTwice_15 : decode cX5_isTwice 15 = .ok (.ireturn, 1) := by decide +kernel
theorem dX5_isTwice_16 : decode cX5_isTwice 16 = .ok (.iconst 0, 1) := by decide +kernel
theorem dX5_isTwice_17 : decode cX5_isTwice 17 = .ok (.istore 4, 2) := by decide +kernel
theorem dX5_isTwice_19 : decode cX5_isTwice 19 = .ok (.iload 4, 2) := by decide +kernel
theorem dX5_isTwice_21 : decode cX5_isTwice 21 = .ok (.iload_n 3, 1) := by decide +kernel
theorem dX5_isTwice_22 : decode cX5_isTwice 22 = .ok (.if_icmp .ge 30, 3) := by decide +kernel
theorem dX5_isTwice_25 : decode cX5_isTwice 25 = .ok (.aload_n 0, 1) := by decide +kernel
theorem dX5_isTwice_26 : decode cX5_isTwice 26 = .ok (.iload_n 1, 1) := by decide +kernel
theorem dX5_isTwice_27 : decode cX5_isTwice 27 = .ok (.iload 4, 2) := by decide +kernel
theorem dX5_isTwice_29 : decode cX5_isTwice 29 = .ok (.iadd, 1) := by decide +kernel
theorem dX5_isTwice_30 : decode cX5_isTwice 30 = .ok (.invokevirtual 23, 3) := by decide +kernel
theorem dX5_isTwice_33 : decode cX5_isTwice 33 = .ok (.aload_n 0, 1) := by decide +kernel
theorem dX5_isTwice_34 : decode cX5_isTwice 34 = .ok (.iload_n 2, 1) := by decide +kernel
theorem dX5_isTwice_35 : decode cX5_isTwice 35 = .ok (.iload 4, 2) := by decide +kernel
theorem dX5_isTwice_37 : decode cX5_isTwice 37 = .ok (.iadd, 1) := by decide +kernel
theorem dX5_isTwice_38 : decode cX5_isTwice 38 = .ok (.invokevirtual 23, 3) := by decide +kernel
theorem dX5_isTwice_41 : decode cX5_isTwice 41 = .ok (.if_icmp .eq 5, 3) := by decide +kernel
theorem dX5_isTwice_44 : decode cX5_isTwice 44 = .ok (.iconst 0, 1) := by decide +kernel
theorem dX5_isTwice_45 : decode cX5_isTwice 45 = .ok (.ireturn, 1) := by decide +kernel
theorem dX5_isTwice_46 : decode cX5_isTwice 46 = .ok (.iinc 4 1, 3) := by decide +kernel
theorem dX5_isTwice_49 : decode cX5_isTwice 49 = .ok (.goto (-30), 3) := by decide +kernel
theorem dX5_isTwice_52 : decode cX5_isTwice 52 = .ok (.iconst 1, 1) := by decide +kernel
theorem dX5_isTwice_53 : decode cX5_isTwice 53 = .ok (.ireturn, 1) := by decide +kernel
theorem dX6_init_0 : decode cX6_init 0 = .ok (.aload_n 0, 1) := by decide +kernel
theorem dX6_init_1 : decode cX6_init 1 = .ok (.invokespecial 1, 3) := by decide +kernel
theorem dX6_init_4 : decode cX6_init 4 = .ok (.aload_n 0, 1) := by decide +kernel
theorem dX6_init_5 : decode cX6_init 5 = .ok (.new 7, 3) := by decide +kernel
theorem dX6_init_8 : decode cX6_init 8 = .ok (.dup, 1) := by decide +kernel
theorem dX6_init_9 : decode cX6_init 9 = .ok (.invokespecial 9, 3) := by decide +kernel
theorem dX6_init_12 : decode cX6_init 12 = .ok (.putfield 10, 3) := by decide +kernel
theorem dX6_init_15 : decode cX6_init 15 = .ok (.aload_n 0, 1) := by decide +kernel
theorem dX6_init_16 : decode cX6_init 16 = .ok (.new 16, 3) := by decide +kernel
theorem dX6_init_19 : decode cX6_init 19 = .ok (.dup, 1) := by decide +kernel
theorem dX6_init_20 : decode cX6_init 20 = .ok (.invokespecial 18, 3) := by decide +kernel
theorem dX6_init_23 : decode cX6_init 23 = .ok (.putfield 19, 3) := by decide +kernel
theorem dX6_init_26 : decode cX6_init 26 = .ok (.aload_n 0, 1) := by decide +kernel
theorem dX6_init_27 : decode cX6_init 27 = .ok (.new 23, 3) := by decide +kernel
theorem dX6_init_30 : decode cX6_init 30 = .ok (.dup, 1) := by decide +kernel
theorem dX6_init_31 : decode cX6_init 31 = .ok (.invokespecial 25, 3) := by decide +kernel
theorem dX6_init_34 : decode cX6_init 34 = .ok (.putfield 26, 3) := by decide +kernel
theorem dX6_init_37 : decode cX6_init 37 = .ok (.aload_n 0, 1) := by decide +kernel
theorem dX6_init_38 : decode cX6_init 38 = .ok (.iconst 4, 1) := by decide +kernel
theorem dX6_init_39 : decode cX6_init 39 = .ok (.anewarray 30, 3) := by decide +kernel
theorem dX6_init_42 : decode cX6_init 42 = .ok (.putfield 32, 3) := by decide +kernel
theorem dX6_init_45 : decode cX6_init 45 = .ok (.aload_n 0, 1) := by decide +kernel
theorem dX6_init_46 : decode cX6_init 46 = .ok (.iconst 4, 1) := by decide +kernel
theorem dX6_init_47 : decode cX6_init 47 = .ok (.anewarray 36, 3) := by decide +kernel
theorem dX6_init_50 : decode cX6_init 50 = .ok (.putfield 38, 3) := by decide +kernel
theorem dX6_init_53 : decode cX6_init 53 = .ok (.aload_n 0, 1) := by decide +kernel
theorem dX6_init_54 : decode cX6_init 54 = .ok (.bipush 16, 2) := by decide +kernel
theorem dX6_init_56 : decode cX6_init 56 = .ok (.anewarray 42, 3) := by decide +kernel
theorem dX6_init_59 : decode cX6_init 59 = .ok (.putfield 44, 3) := by decide +kernel
theorem dX6_init_62 : decode cX6_init 62 = .ok (.aload_n 0, 1) := by decide +kernel
theorem dX6_init_63 : decode cX6_init 63 = .ok (.iconst (-1), 1) := by decide +kernel
theorem dX6_init_64 : decode cX6_init 64 = .ok (.putfield 48, 3) := by decide +kernel
theorem dX6_init_67 : decode cX6_init 67 = .ok (.aload_n 0, 1) := by decide +kernel
theorem dX6_init_68 : decode cX6_init 68 = .ok (.iconst 0, 1) := by decide +kernel
theorem dX6_init_69 : decode cX6_init 69 = .ok (.putfield 52, 3) := by decide +kernel
theorem dX6_init_72 : decode cX6_init 72 = .ok (.aload_n 0, 1) := by decide +kernel
theorem dX6_init_73 : decode cX6_init 73 = .ok (.iconst 0, 1) := by decide +kernel
theorem dX6_init_74 : decode cX6_init 74 = .ok (.putfield 56, 3) := by decide +kernel
theorem dX6_init_77 : decode cX6_init 77 = .ok (.iconst 0, 1) := by decide +kernel
theorem dX6_init_78 : decode cX6_init 78 = .ok (.istore_n 1, 1) := by decide +kernel
theorem dX6_init_79 : decode cX6_init 79 = .ok (.iload_n 1, 1) := by decide +kernel
theorem dX6_init_80 : decode cX6_init 80 = .ok (.iconst 4, 1) := by decide +kernel
theorem dX6_init_81 : decode cX6_init 81 = .ok (.if_icmp .ge 54, 3) := by decide +kernel
theorem dX6_init_84 : decode cX6_init 84 = .ok (.new 7, 3) := by decide +kernel
theorem dX6_init_87 : decode cX6_init 87 = .ok (.dup, 1) := by decide +kernel
theorem dX6_init_88 : decode cX6_init 88 = .ok (.invokespecial 9, 3) := by decide +kernel
theorem dX6_init_91 : decode cX6_init 91 = .ok (.astore_n 2, 1) := by decide +kernel
theorem dX6_init_92 : decode cX6_init 92 = .ok (.aload_n 0, 1) := by decide +kernel
theorem dX6_init_93 : decode cX6_init 93 = .ok (.getfield 32, 3) := by decide +kernel
theorem dX6_init_96 : decode cX6_init 96 = .ok (.iload_n 1, 1) := by decide +kernel
theorem dX6_init_97 : decode cX6_init 97 = .ok (.new 30, 3) := by decide +kernel
theorem dX6_init_100 : decode cX6_init 100 = .ok (.dup, 1) := by decide +kernel
theorem dX6_init_101 : decode cX6_init 101 = .ok (.aload_n 2, 1) := by decide +kernel
theorem dX6_init_102 : decode cX6_init 102 = .ok (.invokespecial 59, 3) := by decide +kernel
theorem dX6_init_105 : decode cX6_init 105 = .ok (.aastore, 1) := by decide +kernel
theorem dX6_init_106 : decode cX6_init 106 = .ok (.aload_n 0, 1) := by decide +kernel
theorem dX6_init_107 : decode cX6_init 107 = .ok (.getfield 38, 3) := by decide +kernel
theorem dX6_init_110 : decode cX6_init 110 = .ok (.iload_n 1, 1) := by decide +kernel
theorem dX6_init_111 : decode cX6_init 111 = .ok (.new 36, 3) := by decide +kernel
theorem dX6_init_114 : decode cX6_init 114 = .ok (.dup, 1) := by decide +kernel
theorem dX6_init_115 : decode cX6_init 115 = .ok (.aload_n 0, 1) := by decide +kernel
theorem dX6_init_116 : decode cX6_init 116 = .ok (.getfield 10, 3) := by decide +kernel
theorem dX6_init_119 : decode cX6_init 119 = .ok (.bipush 65, 2) := by decide +kernel
theorem dX6_init_121 : decode cX6_init 121 = .ok (.iload_n 1, 1) := by decide +kernel
theorem dX6_init_122 : decode cX6_init 122 = .ok (.iadd, 1) := by decide +kernel
theorem dX6_init_123 : decode cX6_init 123 = .ok (.i2c, 1) := by decide +kernel
theorem dX6_init_124 : decode cX6_init 124 = .ok (.aload_n 2, 1) := by decide +kernel
theorem dX6_init_125 : decode cX6_init 125 = .ok (.invokespecial 62, 3) := by decide +kernel
theorem dX6_init_128 : decode cX6_init 128 = .ok (.aastore, 1) := by decide +kernel
theorem dX6_init_129 : decode cX6_init 129 = .ok (.iinc 1 1, 3) := by decide +kernel
theorem dX6_init_132 : decode cX6_init 132 = .ok (.goto (-53), 3) := by decide +kernel
theorem dX6_init_135 : decode cX6_init 135 = .ok (.iconst 0, 1) := by decide +kernel
theorem dX6_init_136 : decode cX6_init 136 = .ok (.istore_n 1, 1) := by decide +kernel
theorem dX6_init_137 : decode cX6_init 137 = .ok (.iload_n 1, 1) := by decide +kernel
theorem dX6_init_138 : decode cX6_init 138 = .ok (.bipush 16, 2) := by decide +kernel
theorem dX6_init_140 : decode cX6_init 140 = .ok (.if_icmp .ge 22, 3) := by decide +kernel
theorem dX6_init_143 : decode cX6_init 143 = .ok (.aload_n 0, 1) := by decide +kernel
theorem dX6_init_144 : decode cX6_init 144 = .ok (.getfield 44, 3) := by decide +kernel
theorem dX6_init_147 : decode cX6_init 147 = .ok (.iload_n 1, 1) := by decide +kernel
theorem dX6_init_148 : decode cX6_init 148 = .ok (.new 42, 3) := by decide +kernel
theorem dX6_init_151 : decode cX6_init 151 = .ok (.dup, 1) := by decide +kernel
theorem dX6_init_152 : decode cX6_init 152 = .ok (.invokespecial 65, 3) := by decide +kernel
theorem dX6_init_155 : decode cX6_init 155 = .ok (.aastore, 1) := by decide +kernel
theorem dX6_init_156 : decode cX6_init 156 = .ok (.iinc 1 1, 3) := by decide +kernel
theorem dX6_init_159 : decode cX6_init 159 = .ok (.goto (-22), 3) := by decide +kernel
theorem dX6_init_162 : decode cX6_init 162 = .ok (.return_, 1) := by decide +kernel
theorem dX6_type_0 : decode cX6_type 0 = .ok (.iload_n 1, 1) := by decide +kernel
theorem dX6_type_1 : decode cX6_type 1 = .ok (.bipush 32, 2) := by decide +kernel
theorem dX6_type_3 : decode cX6_type 3 = .ok (.if_icmp .lt 24, 3) := by decide +kernel
theorem dX6_type_6 : decode cX6_type 6 = .ok (.iload_n 1, 1) := by decide +kernel
theorem dX6_type_7 : decode cX6_type 7 = .ok (.bipush 126, 2) := by decide +kernel
theorem dX6_type_9 : decode cX6_type 9 = .ok (.if_icmp .gt 18, 3) := by decide +kernel
theorem dX6_type_12 : decode cX6_type 12 = .ok (.aload_n 0, 1) := by decide +kernel
theorem dX6_type_13 : decode cX6_type 13 = .ok (.getfield 10, 3) := by decide +kernel
theorem dX6_type_16 : decode cX6_type 16 = .ok (.iload_n 1, 1) := by decide +kernel
theorem dX6_type_17 : decode cX6_type 17 = .ok (.invokevirtual 66, 3) := by decide +kernel
theorem dX6_type_20 : decode cX6_type 20 = .ok (.ifCond .eq 7, 3) := by decide +kernel
theorem dX6_type_23 : decode cX6_type 23 = .ok (.iconst 1, 1) := by decide +kernel
theorem dX6_type_24 : decode cX6_type 24 = .ok (.goto 4, 3) := by decide +kernel
theorem dX6_type_27 : decode cX6_type 27 = .ok (.iconst 0, 1) := by decide +kernel
theorem dX6_type_28 : decode cX6_type 28 = .ok (.ireturn, 1) := by decide +kernel
