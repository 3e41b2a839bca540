theorem dX6_define_0 : decode cX6_define 0 = .ok (.aload_n 0, 1) := by decide +kernel
theorem dX6_define_1 : decode cX6_define 1 = .ok (.invokevirtual 70, 3) := by decide +kernel
theorem dX6_define_4 : decode cX6_define 4 = .ok (.istore_n 1, 1) := by decide +kernel
theorem dX6_define_5 : decode cX6_define 5 = .ok (.iload_n 1, 1) := by decide +kernel
theorem dX6_define_6 : decode cX6_define 6 = .ok (.iconst (-1), 1) := by decide +kernel
theorem dX6_define_7 : decode cX6_define 7 = .ok (.if_icmp .ne 7, 3) := by decide +kernel
theorem dX6_define_10 : decode cX6_define 10 = .ok (.aload_n 0, 1) := by decide +kernel
theorem dX6_define_11 : decode cX6_define 11 = .ok (.invokevirtual 74, 3) := by decide +kernel
theorem dX6_define_14 : decode cX6_define 14 = .ok (.aload_n 0, 1) := by decide +kernel
theorem dX6_define_15 : decode cX6_define 15 = .ok (.getfield 10, 3) := by decide +kernel
theorem dX6_define_18 : decode cX6_define 18 = .ok (.iconst 0, 1) := by decide +kernel
theorem dX6_define_19 : decode cX6_define 19 = .ok (.invokevirtual 77, 3) := by decide +kernel
theorem dX6_define_22 : decode cX6_define 22 = .ok (.iload_n 1, 1) := by decide +kernel
theorem dX6_define_23 : decode cX6_define 23 = .ok (.ireturn, 1) := by decide +kernel
theorem dX6_messages_0 : decode cX6_messages 0 = .ok (.aload_n 0, 1) := by decide +kernel
theorem dX6_messages_1 : decode cX6_messages 1 = .ok (.getfield 48, 3) := by decide +kernel
theorem dX6_messages_4 : decode cX6_messages 4 = .ok (.ireturn, 1) := by decide +kernel
theorem dX6_length_0 : decode cX6_length 0 = .ok (.aload_n 0, 1) := by decide +kernel
theorem dX6_length_1 : decode cX6_length 1 = .ok (.iload_n 1, 1) := by decide +kernel
theorem dX6_length_2 : decode cX6_length 2 = .ok (.invokevirtual 81, 3) := by decide +kernel
theorem dX6_length_5 : decode cX6_length 5 = .ok (.ifCond .eq 18, 3) := by decide +kernel
theorem dX6_length_8 : decode cX6_length 8 = .ok (.aload_n 0, 1) := by decide +kernel
theorem dX6_length_9 : decode cX6_length 9 = .ok (.getfield 32, 3) := by decide +kernel
theorem dX6_length_12 : decode cX6_length 12 = .ok (.iload_n 1, 1) := by decide +kernel
theorem dX6_length_13 : decode cX6_length 13 = .ok (.aaload, 1) := by decide +kernel
theorem dX6_length_14 : decode cX6_length 14 = .ok (.getfield 85, 3) := by decide +kernel
theorem dX6_length_17 : decode cX6_length 17 = .ok (.invokevirtual 88, 3) := by decide +kernel
theorem dX6_length_20 : decode cX6_length 20 = .ok (.goto 4, 3) := by decide +kernel
theorem dX6_length_23 : decode cX6_length 23 = .ok (.iconst (-1), 1) := by decide +kernel
theorem dX6_length_24 : decode cX6_length 24 = .ok (.ireturn, 1) := by decide +kernel
theorem dX6_charAt_0 : decode cX6_charAt 0 = .ok (.aload_n 0, 1) := by decide +kernel
theorem dX6_charAt_1 : decode cX6_charAt 1 = .ok (.iload_n 1, 1) := by decide +kernel
theorem dX6_charAt_2 : decode cX6_charAt 2 = .ok (.invokevirtual 81, 3) := by decide +kernel
theorem dX6_charAt_5 : decode cX6_charAt 5 = .ok (.ifCond .eq 23, 3) := by decide +kernel
theorem dX6_charAt_8 : decode cX6_charAt 8 = .ok (.iload_n 2, 1) := by decide +kernel
theorem dX6_charAt_9 : decode cX6_charAt 9 = .ok (.ifCond .lt 19, 3) := by decide +kernel
theorem dX6_charAt_12 : decode cX6_charAt 12 = .ok (.iload_n 2, 1) := by decide +kernel
theorem dX6_charAt_13 : decode cX6_charAt 13 = .ok (.aload_n 0, 1) := by decide +kernel
theorem dX6_charAt_14 : decode cX6_charAt 14 = .ok (.getfield 32, 3) := by decide +kernel
theorem dX6_charAt_17 : decode cX6_charAt 17 = .ok (.iload_n 1, 1) := by decide +kernel
theorem dX6_charAt_18 : decode cX6_charAt 18 = .ok (.aaload, 1) := by decide +kernel
theorem dX6_charAt_19 : decode cX6_charAt 19 = .ok (.getfield 85, 3) := by decide +kernel
theorem dX6_charAt_22 : decode cX6_charAt 22 = .ok (.invokevirtual 88, 3) := by decide +kernel
theorem dX6_charAt_25 : decode cX6_charAt 25 = .ok (.if_icmp .lt 5, 3) := by decide +kernel
theorem dX6_charAt_28 : decode cX6_charAt 28 = .ok (.iconst (-1), 1) := by decide +kernel
theorem dX6_charAt_29 : decode cX6_charAt 29 = .ok (.ireturn, 1) := by decide +kernel
theorem dX6_charAt_30 : decode cX6_charAt 30 = .ok (.aload_n 0, 1) := by decide +kernel
theorem dX6_charAt_31 : decode cX6_charAt 31 = .ok (.getfield 32, 3) := by decide +kernel
theorem dX6_charAt_34 : decode cX6_charAt 34 = .ok (.iload_n 1, 1) := by decide +kernel
theorem dX6_charAt_35 : decode cX6_charAt 35 = .ok (.aaload, 1) := by decide +kernel
theorem dX6_charAt_36 : decode cX6_charAt 36 = .ok (.getfield 85, 3) := by decide +kernel
theorem dX6_charAt_39 : decode cX6_charAt 39 = .ok (.iload_n 2, 1) := by decide +kernel
theorem dX6_charAt_40 : decode cX6_charAt 40 = .ok (.invokevirtual 91, 3) := by decide +kernel
theorem dX6_charAt_43 : decode cX6_charAt 43 = .ok (.ireturn, 1) := by decide +kernel
theorem dX6_begin_0 : decode cX6_begin 0 = .ok (.iconst 0, 1) := by decide +kernel
theorem dX6_begin_1 : decode cX6_begin 1 = .ok (.istore_n 1, 1) := by decide +kernel
theorem dX6_begin_2 : decode cX6_begin 2 = .ok (.iload_n 1, 1) := by decide +kernel
theorem dX6_begin_3 : decode cX6_begin 3 = .ok (.iconst 4, 1) := by decide +kernel
theorem dX6_begin_4 : decode cX6_begin 4 = .ok (.if_icmp .ge 19, 3) := by decide +kernel
theorem dX6_begin_7 : decode cX6_begin 7 = .ok (.aload_n 0, 1) := by decide +kernel
theorem dX6_begin_8 : decode cX6_begin 8 = .ok (.iload_n 1, 1) := by decide +kernel
theorem dX6_begin_9 : decode cX6_begin 9 = .ok (.invokevirtual 81, 3) := by decide +kernel
theorem dX6_begin_12 : decode cX6_begin 12 = .ok (.ifCond .ne 5, 3) := by decide +kernel
theorem dX6_begin_15 : decode cX6_begin 15 = .ok (.iconst 0, 1) := by decide +kernel
theorem dX6_begin_16 : decode cX6_begin 16 = .ok (.ireturn, 1) := by decide +kernel
theorem dX6_begin_17 : decode cX6_begin 17 = .ok (.iinc 1 1, 3) := by decide +kernel
theorem dX6_begin_20 : decode cX6_begin 20 = .ok (.goto (-18), 3) := by decide +kernel
theorem dX6_begin_23 : decode cX6_begin 23 = .ok (.iconst 0, 1) := by decide +kernel
theorem dX6_begin_24 : decode cX6_begin 24 = .ok (.istore_n 1, 1) := by decide +kernel
theorem dX6_begin_25 : decode cX6_begin 25 = .ok (.iload_n 1, 1) := by decide +kernel
theorem dX6_begin_26 : decode cX6_begin 26 = .ok (.iconst 4, 1) := by decide +kernel
theorem dX6_begin_27 : decode cX6_begin 27 = .ok (.if_icmp .ge 18, 3) := by decide +kernel
theorem dX6_begin_30 : decode cX6_begin 30 = .ok (.aload_n 0, 1) := by decide +kernel
theorem dX6_begin_31 : decode cX6_begin 31 = .ok (.getfield 32, 3) := by decide +kernel
theorem dX6_begin_34 : decode cX6_begin 34 = .ok (.iload_n 1, 1) := by decide +kernel
theorem dX6_begin_35 : decode cX6_begin 35 = .ok (.aaload, 1) := by decide +kernel
theorem dX6_begin_36 : decode cX6_begin 36 = .ok (.invokevirtual 95, 3) := by decide +kernel
theorem dX6_begin_39 : decode cX6_begin 39 = .ok (.iinc 1 1, 3) := by decide +kernel
theorem dX6_begin_42 : decode cX6_begin 42 = .ok (.goto (-17), 3) := by decide +kernel
theorem dX6_begin_45 : decode cX6_begin 45 = .ok (.iconst 0, 1) := by decide +kernel
theorem dX6_begin_46 : decode cX6_begin 46 = .ok (.istore_n 1, 1) := by decide +kernel
theorem dX6_begin_47 : decode cX6_begin 47 = .ok (.iload_n 1, 1) := by decide +kernel
theorem dX6_begin_48 : decode cX6_begin 48 = .ok (.bipush 16, 2) := by decide +kernel
theorem dX6_begin_50 : decode cX6_begin 50 = .ok (.if_icmp .ge 18, 3) := by decide +kernel
theorem dX6_begin_53 : decode cX6_begin 53 = .ok (.aload_n 0, 1) := by decide +kernel
theorem dX6_begin_54 : decode cX6_begin 54 = .ok (.getfield 44, 3) := by decide +kernel
theorem dX6_begin_57 : decode cX6_begin 57 = .ok (.iload_n 1, 1) := by decide +kernel
theorem dX6_begin_58 : decode cX6_begin 58 = .ok (.aaload, 1) := by decide +kernel
theorem dX6_begin_59 : decode cX6_begin 59 = .ok (.invokevirtual 98, 3) := by decide +kernel
theorem dX6_begin_62 : decode cX6_begin 62 = .ok (.iinc 1 1, 3) := by decide +kernel
theorem dX6_begin_65 : decode cX6_begin 65 = .ok (.goto (-18), 3) := by decide +kernel
theorem dX6_begin_68 : decode cX6_begin 68 = .ok (.aload_n 0, 1) := by decide +kernel
theorem dX6_begin_69 : decode cX6_begin 69 = .ok (.iconst 0, 1) := by decide +kernel
theorem dX6_begin_70 : decode cX6_begin 70 = .ok (.putfield 56, 3) := by decide +kernel
theorem dX6_begin_73 : decode cX6_begin 73 = .ok (.aload_n 0, 1) := by decide +kernel
theorem dX6_begin_74 : decode cX6_begin 74 = .ok (.iconst 1, 1) := by decide +kernel
theorem dX6_begin_75 : decode cX6_begin 75 = .ok (.putfield 52, 3) := by decide +kernel
theorem dX6_begin_78 : decode cX6_begin 78 = .ok (.iconst 1, 1) := by decide +kernel
theorem dX6_begin_79 : decode cX6_begin 79 = .ok (.ireturn, 1) := by decide +kernel
theorem dX6_act_0 : decode cX6_act 0 = .ok (.aload_n 0, 1) := by decide +kernel
theorem dX6_act_1 : decode cX6_act 1 = .ok (.iload_n 1, 1) := by decide +kernel
theorem dX6_act_2 : decode cX6_act 2 = .ok (.invokevirtual 101, 3) := by decide +kernel
theorem dX6_act_5 : decode cX6_act 5 = .ok (.astore_n 2, 1) := by decide +kernel
theorem dX6_act_6 : decode cX6_act 6 = .ok (.aload_n 2, 1) := by decide +kernel
theorem dX6_act_7 : decode cX6_act 7 = .ok (.ifnonnull 7, 3) := by decide +kernel
theorem dX6_act_10 : decode cX6_act 10 = .ok (.iconst (-1), 1) := by decide +kernel
theorem dX6_act_11 : decode cX6_act 11 = .ok (.goto 7, 3) := by decide +kernel
theorem dX6_act_14 : decode cX6_act 14 = .ok (.aload_n 2, 1) := by decide +kernel
theorem dX6_act_15 : decode cX6_act 15 = .ok (.invokevirtual 105, 3) := by decide +kernel
theorem dX6_act_18 : decode cX6_act 18 = .ok (.ireturn, 1) := by decide +kernel
theorem dX6_partner_0 : decode cX6_partner 0 = .ok (.aload_n 0, 1) := by decide +kernel
theorem dX6_partner_1 : decode cX6_partner 1 = .ok (.iload_n 1, 1) := by decide +kernel
theorem dX6_partner_2 : decode cX6_partner 2 = .ok (.invokevirtual 101, 3) := by decide +kernel
theorem dX6_partner_5 : decode cX6_partner 5 = .ok (.astore_n 2, 1) := by decide +kernel
theorem dX6_partner_6 : decode cX6_partner 6 = .ok (.aload_n 2, 1) := by decide +kernel
theorem dX6_partner_7 : decode cX6_partner 7 = .ok (.ifnonnull 7, 3) := by decide +kernel
theorem dX6_partner_10 : decode cX6_partner 10 = .ok (.iconst (-1), 1) := by decide +kernel
theorem dX6_partner_11 : decode cX6_partner 11 = .ok (.goto 7, 3) := by decide +kernel
theorem dX6_partner_14 : decode cX6_partner 14 = .ok (.aload_n 2, 1) := by decide +kernel
theorem dX6_partner_15 : decode cX6_partner 15 = .ok (.invokevirtual 108, 3) := by decide +kernel
theorem dX6_partner_18 : decode cX6_partner 18 = .ok (.ireturn, 1) := by decide +kernel
theorem dX6_offers_0 : decode cX6_offers 0 = .ok (.aload_n 0, 1) := by decide +kernel
theorem dX6_offers_1 : decode cX6_offers 1 = .ok (.iload_n 1, 1) := by decide +kernel
theorem dX6_offers_2 : decode cX6_offers 2 = .ok (.invokevirtual 101, 3) := by decide +kernel
theorem dX6_offers_5 : decode cX6_offers 5 = .ok (.astore_n 3, 1) := by decide +kernel
theorem dX6_offers_6 : decode cX6_offers 6 = .ok (.aload_n 3, 1) := by decide +kernel
theorem dX6_offers_7 : decode cX6_offers 7 = .ok (.ifnull 16, 3) := by decide +kernel
theorem dX6_offers_10 : decode cX6_offers 10 = .ok (.aload_n 3, 1) := by decide +kernel
theorem dX6_offers_11 : decode cX6_offers 11 = .ok (.iload_n 2, 1) := by decide +kernel
theorem dX6_offers_12 : decode cX6_offers 12 = .ok (.invokevirtual 111, 3) := by decide +kernel
theorem dX6_offers_15 : decode cX6_offers 15 = .ok (.iconst (-1), 1) := by decide +kernel
theorem dX6_offers_16 : decode cX6_offers 16 = .ok (.if_icmp .eq 7, 3) := by decide +kernel
theorem dX6_offers_19 : decode cX6_offers 19 = .ok (.iconst 1, 1) := by decide +kernel
theorem dX6_offers_20 : decode cX6_offers 20 = .ok (.goto 4, 3) := by decide +kernel
theorem dX6_offers_23 : decode cX6_offers 23 = .ok (.iconst 0, 1) := by decide +kernel
theorem dX6_offers_24 : decode cX6_offers 24 = .ok (.ireturn, 1) := by decide +kernel
theorem dX6_send_0 : decode cX6_send 0 = .ok (.aload_n 0, 1) := by decide +kernel
theorem dX6_send_1 : decode cX6_send 1 = .ok (.iload_n 1, 1) := by decide +kernel
theorem dX6_send_2 : decode cX6_send 2 = .ok (.invokevirtual 101, 3) := by decide +kernel
theorem dX6_send_5 : decode cX6_send 5 = .ok (.astore_n 3, 1) := by decide +kernel
theorem dX6_send_6 : decode cX6_send 6 = .ok (.aload_n 3, 1) := by decide +kernel
theorem dX6_send_7 : decode cX6_send 7 = .ok (.ifnull 11, 3) := by decide +kernel
theorem dX6_send_10 : decode cX6_send 10 = .ok (.aload_n 3, 1) := by decide +kernel
theorem dX6_send_11 : decode cX6_send 11 = .ok (.invokevirtual 105, 3) := by decide +kernel
theorem dX6_send_14 : decode cX6_send 14 = .ok (.iconst 1, 1) := by decide +kernel
theorem dX6_send_15 : decode cX6_send 15 = .ok (.if_icmp .eq 5, 3) := by decide +kernel
theorem dX6_send_18 : decode cX6_send 18 = .ok (.iconst 0, 1) := by decide +kernel
theorem dX6_send_19 : decode cX6_send 19 = .ok (.ireturn, 1) := by decide +kernel
theorem dX6_send_20 : decode cX6_send 20 = .ok (.aload_n 0, 1) := by decide +kernel
theorem dX6_send_21 : decode cX6_send 21 = .ok (.iload_n 1, 1) := by decide +kernel
theorem dX6_send_22 : decode cX6_send 22 = .ok (.aload_n 3, 1) := by decide +kernel
theorem dX6_send_23 : decode cX6_send 23 = .ok (.invokevirtual 108, 3) := by decide +kernel
theorem dX6_send_26 : decode cX6_send 26 = .ok (.invokevirtual 115, 3) := by decide +kernel
theorem dX6_send_29 : decode cX6_send 29 = .ok (.astore 4, 2) := by decide +kernel
theorem dX6_send_31 : decode cX6_send 31 = .ok (.aload 4, 2) := by decide +kernel
theorem dX6_send_33 : decode cX6_send 33 = .ok (.ifnull 19, 3) := by decide +kernel
theorem dX6_send_36 : decode cX6_send 36 = .ok (.aload 4, 2) := by decide +kernel
theorem dX6_send_38 : decode cX6_send 38 = .ok (.invokevirtual 119, 3) := by decide +kernel
theorem dX6_send_41 : decode cX6_send 41 = .ok (.ifCond .ne 11, 3) := by decide +kernel
theorem dX6_send_44 : decode cX6_send 44 = .ok (.aload_n 3, 1) := by decide +kernel
theorem dX6_send_45 : decode cX6_send 45 = .ok (.iload_n 2, 1) := by decide +kernel
theorem dX6_send_46 : decode cX6_send 46 = .ok (.invokevirtual 123, 3) := by decide +kernel
theorem dX6_send_49 : decode cX6_send 49 = .ok (.ifCond .ne 5, 3) := by decide +kernel
theorem dX6_send_52 : decode cX6_send 52 = .ok (.iconst 0, 1) := by decide +kernel
theorem dX6_send_53 : decode cX6_send 53 = .ok (.ireturn, 1) := by decide +kernel
theorem dX6_send_54 : decode cX6_send 54 = .ok (.aload 4, 2) := by decide +kernel
theorem dX6_send_56 : decode cX6_send 56 = .ok (.iload_n 2, 1) := by decide +kernel
theorem dX6_send_57 : decode cX6_send 57 = .ok (.invokevirtual 126, 3) := by decide +kernel
theorem dX6_send_60 : decode cX6_send 60 = .ok (.aload_n 0, 1) := by decide +kernel
theorem dX6_send_61 : decode cX6_send 61 = .ok (.dup, 1) := by decide +kernel
theorem dX6_send_62 : decode cX6_send 62 = .ok (.getfield 56, 3) := by decide +kernel
theorem dX6_send_65 : decode cX6_send 65 = .ok (.iconst 1, 1) := by decide +kernel
theorem dX6_send_66 : decode cX6_send 66 = .ok (.iadd, 1) := by decide +kernel
theorem dX6_send_67 : decode cX6_send 67 = .ok (.putfield 56, 3) := by decide +kernel
theorem dX6_send_70 : decode cX6_send 70 = .ok (.iconst 1, 1) := by decide +kernel
theorem dX6_send_71 : decode cX6_send 71 = .ok (.ireturn, 1) := by decide +kernel
theorem dX6_receive_0 : decode cX6_receive 0 = .ok (.aload_n 0, 1) := by decide +kernel
theorem dX6_receive_1 : decode cX6_receive 1 = .ok (.iload_n 1, 1) := by decide +kernel
theorem dX6_receive_2 : decode cX6_receive 2 = .ok (.invokevirtual 101, 3) := by decide +kernel
theorem dX6_receive_5 : decode cX6_receive 5 = .ok (.astore_n 2, 1) := by decide +kernel
theorem dX6_receive_6 : decode cX6_receive 6 = .ok (.aload_n 2, 1) := by decide +kernel
theorem dX6_receive_7 : decode cX6_receive 7 = .ok (.ifnull 11, 3) := by decide +kernel
theorem dX6_receive_10 : decode cX6_receive 10 = .ok (.aload_n 2, 1) := by decide +kernel
theorem dX6_receive_11 : decode cX6_receive 11 = .ok (.invokevirtual 105, 3) := by decide +kernel
theorem dX6_receive_14 : decode cX6_receive 14 = .ok (.iconst 2, 1) := by decide +kernel
theorem dX6_receive_15 : decode cX6_receive 15 = .ok (.if_icmp .eq 5, 3) := by decide +kernel
theorem dX6_receive_18 : decode cX6_receive 18 = .ok (.iconst (-1), 1) := by decide +kernel
theorem dX6_receive_19 : decode cX6_receive 19 = .ok (.ireturn, 1) := by decide +kernel
theorem dX6_receive_20 : decode cX6_receive 20 = .ok (.aload_n 0, 1) := by decide +kernel
theorem dX6_receive_21 : decode cX6_receive 21 = .ok (.aload_n 2, 1) := by decide +kernel
theorem dX6_receive_22 : decode cX6_receive 22 = .ok (.invokevirtual 108, 3) := by decide +kernel
theorem dX6_receive_25 : decode cX6_receive 25 = .ok (.iload_n 1, 1) := by decide +kernel
theorem dX6_receive_26 : decode cX6_receive 26 = .ok (.invokevirtual 115, 3) := by decide +kernel
theorem dX6_receive_29 : decode cX6_receive 29 = .ok (.astore_n 3, 1) := by decide +kernel
theorem dX6_receive_30 : decode cX6_receive 30 = .ok (.aload_n 3, 1) := by decide +kernel
theorem dX6_receive_31 : decode cX6_receive 31 = .ok (.ifnull 10, 3) := by decide +kernel
theorem dX6_receive_34 : decode cX6_receive 34 = .ok (.aload_n 3, 1) := by decide +kernel
theorem dX6_receive_35 : decode cX6_receive 35 = .ok (.invokevirtual 128, 3) := by decide +kernel
theorem dX6_receive_38 : decode cX6_receive 38 = .ok (.ifCond .ne 5, 3) := by decide +kernel
theorem dX6_receive_41 : decode cX6_receive 41 = .ok (.iconst (-1), 1) := by decide +kernel
theorem dX6_receive_42 : decode cX6_receive 42 = .ok (.ireturn, 1) := by decide +kernel
theorem dX6_receive_43 : decode cX6_receive 43 = .ok (.aload_n 3, 1) := by decide +kernel
theorem dX6_receive_44 : decode cX6_receive 44 = .ok (.iconst 0, 1) := by decide +kernel
theorem dX6_receive_45 : decode cX6_receive 45 = .ok (.invokevirtual 129, 3) := by decide +kernel
theorem dX6_receive_48 : decode cX6_receive 48 = .ok (.istore 4, 2) := by decide +kernel
theorem dX6_receive_50 : decode cX6_receive 50 = .ok (.aload_n 2, 1) := by decide +kernel
theorem dX6_receive_51 : decode cX6_receive 51 = .ok (.iload 4, 2) := by decide +kernel
theorem dX6_receive_53 : decode cX6_receive 53 = .ok (.invokevirtual 123, 3) := by decide +kernel
theorem dX6_receive_56 : decode cX6_receive 56 = .ok (.ifCond .ne 6, 3) := by decide +kernel
theorem dX6_receive_59 : decode cX6_receive 59 = .ok (.bipush (-2), 2) := by decide +kernel
theorem dX6_receive_61 : decode cX6_receive 61 = .ok (.ireturn, 1) := by decide +kernel
theorem dX6_receive_62 : decode cX6_receive 62 = .ok (.aload_n 3, 1) := by decide +kernel
theorem dX6_receive_63 : decode cX6_receive 63 = .ok (.invokevirtual 131, 3) := by decide +kernel
theorem dX6_receive_66 : decode cX6_receive 66 = .ok (.aload_n 0, 1) := by decide +kernel
theorem dX6_receive_67 : decode cX6_receive 67 = .ok (.dup, 1) := by decide +kernel
theorem dX6_receive_68 : decode cX6_receive 68 = .ok (.getfield 56, 3) := by decide +kernel
theorem dX6_receive_71 : decode cX6_receive 71 = .ok (.iconst 1, 1) := by decide +kernel
theorem dX6_receive_72 : decode cX6_receive 72 = .ok (.iadd, 1) := by decide +kernel
theorem dX6_receive_73 : decode cX6_receive 73 = .ok (.putfield 56, 3) := by decide +kernel
theorem dX6_receive_76 : decode cX6_receive 76 = .ok (.iload 4, 2) := by decide +kernel
theorem dX6_receive_78 : decode cX6_receive 78 = .ok (.ireturn, 1) := by decide +kernel
theorem dX6_onTheWay_0 : decode cX6_onTheWay 0 = .ok (.aload_n 0, 1) := by decide +kernel
theorem dX6_onTheWay_1 : decode cX6_onTheWay 1 = .ok (.iload_n 1, 1) := by decide +kernel
theorem dX6_onTheWay_2 : decode cX6_onTheWay 2 = .ok (.iload_n 2, 1) := by decide +kernel
theorem dX6_onTheWay_3 : decode cX6_onTheWay 3 = .ok (.invokevirtual 115, 3) := by decide +kernel
theorem dX6_onTheWay_6 : decode cX6_onTheWay 6 = .ok (.astore_n 3, 1) := by decide +kernel
theorem dX6_onTheWay_7 : decode cX6_onTheWay 7 = .ok (.aload_n 3, 1) := by decide +kernel
theorem dX6_onTheWay_8 : decode cX6_onTheWay 8 = .ok (.ifnonnull 7, 3) := by decide +kernel
theorem dX6_onTheWay_11 : decode cX6_onTheWay 11 = .ok (.iconst (-1), 1) := by decide +kernel
theorem dX6_onTheWay_12 : decode cX6_onTheWay 12 = .ok (.goto 7, 3) := by decide +kernel
theorem dX6_onTheWay_15 : decode cX6_onTheWay 15 = .ok (.aload_n 3, 1) := by decide +kernel
theorem dX6_onTheWay_16 : decode cX6_onTheWay 16 = .ok (.invokevirtual 128, 3) := by decide +kernel
theorem dX6_onTheWay_19 : decode cX6_onTheWay 19 = .ok (.ireturn, 1) := by decide +kernel
theorem dX6_labelAt_0 : decode cX6_labelAt 0 = .ok (.aload_n 0, 1) := by decide +kernel
theorem dX6_labelAt_1 : decode cX6_labelAt 1 = .ok (.iload_n 1, 1) := by decide +kernel
theorem dX6_labelAt_2 : decode cX6_labelAt 2 = .ok (.iload_n 2, 1) := by decide +kernel
theorem dX6_labelAt_3 : decode cX6_labelAt 3 = .ok (.invokevirtual 115, 3) := by decide +kernel
theorem dX6_labelAt_6 : decode cX6_labelAt 6 = .ok (.astore 4, 2) := by decide +kernel
theorem dX6_labelAt_8 : decode cX6_labelAt 8 = .ok (.aload 4, 2) := by decide +kernel
theorem dX6_labelAt_10 : decode cX6_labelAt 10 = .ok (.ifnonnull 7, 3) := by decide +kernel
theorem dX6_labelAt_13 : decode cX6_labelAt 13 = .ok (.iconst (-1), 1) := by decide +kernel
theorem dX6_labelAt_14 : decode cX6_labelAt 14 = .ok (.goto 9, 3) := by decide +kernel
theorem dX6_labelAt_17 : decode cX6_labelAt 17 = .ok (.aload 4, 2) := by decide +kernel
theorem dX6_labelAt_19 : decode cX6_labelAt 19 = .ok (.iload_n 3, 1) := by decide +kernel
theorem dX6_labelAt_20 : decode cX6_labelAt 20 = .ok (.invokevirtual 129, 3) := by decide +kernel
theorem dX6_labelAt_23 : decode cX6_labelAt 23 = .ok (.ireturn, 1) := by decide +kernel
theorem dX6_moves_0 : decode cX6_moves 0 = .ok (.aload_n 0, 1) := by decide +kernel
theorem dX6_moves_1 : decode cX6_moves 1 = .ok (.getfield 52, 3) := by decide +kernel
theorem dX6_moves_4 : decode cX6_moves 4 = .ok (.ifCond .eq 10, 3) := by decide +kernel
theorem dX6_moves_7 : decode cX6_moves 7 = .ok (.aload_n 0, 1) := by decide +kernel
theorem dX6_moves_8 : decode cX6_moves 8 = .ok (.getfield 56, 3) := by decide +kernel
theorem dX6_moves_11 : decode cX6_moves 11 = .ok (.goto 4, 3) := by decide +kernel
theorem dX6_moves_14 : decode cX6_moves 14 = .ok (.iconst (-1), 1) := by decide +kernel
theorem dX6_moves_15 : decode cX6_moves 15 = .ok (.ireturn, 1) := by decide +kernel
theorem dX6_ready_0 : decode cX6_ready 0 = .ok (.aload_n 0, 1) := by decide +kernel
theorem dX6_ready_1 : decode cX6_ready 1 = .ok (.getfield 52, 3) := by decide +kernel
theorem dX6_ready_4 : decode cX6_ready 4 = .ok (.ifCond .ne 5, 3) := by decide +kernel
theorem dX6_ready_7 : decode cX6_ready 7 = .ok (.iconst (-1), 1) := by decide +kernel
theorem dX6_ready_8 : decode cX6_ready 8 = .ok (.ireturn, 1) := by decide +kernel
theorem dX6_ready_9 : decode cX6_ready 9 = .ok (.iconst 0, 1) := by decide +kernel
theorem dX6_ready_10 : decode cX6_ready 10 = .ok (.istore_n 1, 1) := by decide +kernel
theorem dX6_ready_11 : decode cX6_ready 11 = .ok (.iconst 0, 1) := by decide +kernel
theorem dX6_ready_12 : decode cX6_ready 12 = .ok (.istore_n 2, 1) := by decide +kernel
theorem dX6_ready_13 : decode cX6_ready 13 = .ok (.iload_n 2, 1) := by decide +kernel
theorem dX6_ready_14 : decode cX6_ready 14 = .ok (.iconst 4, 1) := by decide +kernel
theorem dX6_ready_15 : decode cX6_ready 15 = .ok (.if_icmp .ge 20, 3) := by decide +kernel
theorem dX6_ready_18 : decode cX6_ready 18 = .ok (.aload_n 0, 1) := by decide +kernel
theorem dX6_ready_19 : decode cX6_ready 19 = .ok (.iload_n 2, 1) := by decide +kernel
theorem dX6_ready_20 : decode cX6_ready 20 = .ok (.invokevirtual 134, 3) := by decide +kernel
theorem dX6_ready_23 : decode cX6_ready 23 = .ok (.ifCond .eq 6, 3) := by decide +kernel
theorem dX6_ready_26 : decode cX6_ready 26 = .ok (.iinc 1 1, 3) := by decide +kernel
theorem dX6_ready_29 : decode cX6_ready 29 = .ok (.iinc 2 1, 3) := by decide +kernel
theorem dX6_ready_32 : decode cX6_ready 32 = .ok (.goto (-19), 3) := by decide +kernel
theorem dX6_ready_35 : decode cX6_ready 35 = .ok (.iload_n 1, 1) := by decide +kernel
theorem dX6_ready_36 : decode cX6_ready 36 = .ok (.ireturn, 1) := by decide +kernel
theorem dX6_over_0 : decode cX6_over 0 = .ok (.aload_n 0, 1) := by decide +kernel
theorem dX6_over_1 : decode cX6_over 1 = .ok (.getfield 52, 3) := by decide +kernel
theorem dX6_over_4 : decode cX6_over 4 = .ok (.ifCond .eq 21, 3) := by decide +kernel
theorem dX6_over_7 : decode cX6_over 7 = .ok (.aload_n 0, 1) := by decide +kernel
theorem dX6_over_8 : decode cX6_over 8 = .ok (.invokevirtual 137, 3) := by decide +kernel
theorem dX6_over_11 : decode cX6_over 11 = .ok (.ifCond .eq 14, 3) := by decide +kernel
theorem dX6_over_14 : decode cX6_over 14 = .ok (.aload_n 0, 1) := by decide +kernel
theorem dX6_over_15 : decode cX6_over 15 = .ok (.invokevirtual 140, 3) := by decide +kernel
theorem dX6_over_18 : decode cX6_over 18 = .ok (.ifCond .eq 7, 3) := by decide +kernel
theorem dX6_over_21 : decode cX6_over 21 = .ok (.iconst 1, 1) := by decide +kernel
theorem dX6_over_22 : decode cX6_over 22 = .ok (.goto 4, 3) := by decide +kernel
theorem dX6_over_25 : decode cX6_over 25 = .ok (.iconst 0, 1) := by decide +kernel
theorem dX6_over_26 : decode cX6_over 26 = .ok (.ireturn, 1) := by decide +kernel
theorem dX6_judgeTyped_0 : decode cX6_judgeTyped 0 = .ok (.aload_n 0, 1) := by decide +kernel
theorem dX6_judgeTyped_1 : decode cX6_judgeTyped 1 = .ok (.getfield 19, 3) := by decide +kernel
theorem dX6_judgeTyped_4 : decode cX6_judgeTyped 4 = .ok (.aload_n 0, 1) := by decide +kernel
theorem dX6_judgeTyped_5 : decode cX6_judgeTyped 5 = .ok (.getfield 10, 3) := by decide +kernel
theorem dX6_judgeTyped_8 : decode cX6_judgeTyped 8 = .ok (.invokevirtual 143, 3) := by decide +kernel
theorem dX6_judgeTyped_11 : decode cX6_judgeTyped 11 = .ok (.istore_n 1, 1) := by decide +kernel
theorem dX6_judgeTyped_12 : decode cX6_judgeTyped 12 = .ok (.iload_n 1, 1) := by decide +kernel
theorem dX6_judgeTyped_13 : decode cX6_judgeTyped 13 = .ok (.iconst (-1), 1) := by decide +kernel
theorem dX6_judgeTyped_14 : decode cX6_judgeTyped 14 = .ok (.if_icmp .eq 5, 3) := by decide +kernel
theorem dX6_judgeTyped_17 : decode cX6_judgeTyped 17 = .ok (.iload_n 1, 1) := by decide +kernel
theorem dX6_judgeTyped_18 : decode cX6_judgeTyped 18 = .ok (.ireturn, 1) := by decide +kernel
theorem dX6_judgeTyped_19 : decode cX6_judgeTyped 19 = .ok (.aload_n 0, 1) := by decide +kernel
theorem dX6_judgeTyped_20 : decode cX6_judgeTyped 20 = .ok (.getfield 26, 3) := by decide +kernel
theorem dX6_judgeTyped_23 : decode cX6_judgeTyped 23 = .ok (.aload_n 0, 1) := by decide +kernel
theorem dX6_judgeTyped_24 : decode cX6_judgeTyped 24 = .ok (.getfield 10, 3) := by decide +kernel
theorem dX6_judgeTyped_27 : decode cX6_judgeTyped 27 = .ok (.invokevirtual 147, 3) := by decide +kernel
theorem dX6_judgeTyped_30 : decode cX6_judgeTyped 30 = .ok (.ifCond .eq 7, 3) := by decide +kernel
theorem dX6_judgeTyped_33 : decode cX6_judgeTyped 33 = .ok (.iconst (-1), 1) := by decide +kernel
theorem dX6_judgeTyped_34 : decode cX6_judgeTyped 34 = .ok (.goto 5, 3) := by decide +kernel
theorem dX6_judgeTyped_37 : decode cX6_judgeTyped 37 = .ok (.bipush (-2), 2) := by decide +kernel
theorem dX6_judgeTyped_39 : decode cX6_judgeTyped 39 = .ok (.ireturn, 1) := by decide +kernel
theorem dX6_adoptTyped_0 : decode cX6_adoptTyped 0 = .ok (.aload_n 0, 1) := by decide +kernel
theorem dX6_adoptTyped_1 : decode cX6_adoptTyped 1 = .ok (.aload_n 0, 1) := by decide +kernel
theorem dX6_adoptTyped_2 : decode cX6_adoptTyped 2 = .ok (.getfield 10, 3) := by decide +kernel
theorem dX6_adoptTyped_5 : decode cX6_adoptTyped 5 = .ok (.bipush 123, 2) := by decide +kernel
theorem dX6_adoptTyped_7 : decode cX6_adoptTyped 7 = .ok (.invokevirtual 151, 3) := by decide +kernel
theorem dX6_adoptTyped_10 : decode cX6_adoptTyped 10 = .ok (.putfield 48, 3) := by decide +kernel
theorem dX6_adoptTyped_13 : decode cX6_adoptTyped 13 = .ok (.iconst 0, 1) := by decide +kernel
theorem dX6_adoptTyped_14 : decode cX6_adoptTyped 14 = .ok (.istore_n 1, 1) := by decide +kernel
theorem dX6_adoptTyped_15 : decode cX6_adoptTyped 15 = .ok (.iload_n 1, 1) := by decide +kernel
theorem dX6_adoptTyped_16 : decode cX6_adoptTyped 16 = .ok (.iconst 4, 1) := by decide +kernel
theorem dX6_adoptTyped_17 : decode cX6_adoptTyped 17 = .ok (.if_icmp .ge 27, 3) := by decide +kernel
theorem dX6_adoptTyped_20 : decode cX6_adoptTyped 20 = .ok (.aload_n 0, 1) := by decide +kernel
theorem dX6_adoptTyped_21 : decode cX6_adoptTyped 21 = .ok (.getfield 32, 3) := by decide +kernel
theorem dX6_adoptTyped_24 : decode cX6_adoptTyped 24 = .ok (.iload_n 1, 1) := by decide +kernel
theorem dX6_adoptTyped_25 : decode cX6_adoptTyped 25 = .ok (.aaload, 1) := by decide +kernel
theorem dX6_adoptTyped_26 : decode cX6_adoptTyped 26 = .ok (.aload_n 0, 1) := by decide +kernel
theorem dX6_adoptTyped_27 : decode cX6_adoptTyped 27 = .ok (.getfield 38, 3) := by decide +kernel
theorem dX6_adoptTyped_30 : decode cX6_adoptTyped 30 = .ok (.iload_n 1, 1) := by decide +kernel
theorem dX6_adoptTyped_31 : decode cX6_adoptTyped 31 = .ok (.aaload, 1) := by decide +kernel
theorem dX6_adoptTyped_32 : decode cX6_adoptTyped 32 = .ok (.invokevirtual 155, 3) := by decide +kernel
theorem dX6_adoptTyped_35 : decode cX6_adoptTyped 35 = .ok (.putfield 158, 3) := by decide +kernel
theorem dX6_adoptTyped_38 : decode cX6_adoptTyped 38 = .ok (.iinc 1 1, 3) := by decide +kernel
theorem dX6_adoptTyped_41 : decode cX6_adoptTyped 41 = .ok (.goto (-26), 3) := by decide +kernel
theorem dX6_adoptTyped_44 : decode cX6_adoptTyped 44 = .ok (.aload_n 0, 1) := by decide +kernel
theorem dX6_adoptTyped_45 : decode cX6_adoptTyped 45 = .ok (.iconst 0, 1) := by decide +kernel
theorem dX6_adoptTyped_46 : decode cX6_adoptTyped 46 = .ok (.putfield 52, 3) := by decide +kernel
theorem dX6_adoptTyped_49 : decode cX6_adoptTyped 49 = .ok (.return_, 1) := by decide +kernel
theorem dX6_hasPart_0 : decode cX6_hasPart 0 = .ok (.iload_n 1, 1) := by decide +kernel
theorem dX6_hasPart_1 : decode cX6_hasPart 1 = .ok (.invokestatic 161, 3) := by decide +kernel
theorem dX6_hasPart_4 : decode cX6_hasPart 4 = .ok (.ifCond .eq 19, 3) := by decide +kernel
theorem dX6_hasPart_7 : decode cX6_hasPart 7 = .ok (.aload_n 0, 1) := by decide +kernel
theorem dX6_hasPart_8 : decode cX6_hasPart 8 = .ok (.getfield 32, 3) := by decide +kernel
theorem dX6_hasPart_11 : decode cX6_hasPart 11 = .ok (.iload_n 1, 1) := by decide +kernel
theorem dX6_hasPart_12 : decode cX6_hasPart 12 = .ok (.aaload, 1) := by decide +kernel
theorem dX6_hasPart_13 : decode cX6_hasPart 13 = .ok (.getfield 158, 3) := by decide +kernel
theorem dX6_hasPart_16 : decode cX6_hasPart 16 = .ok (.ifCond .eq 7, 3) := by decide +kernel
theorem dX6_hasPart_19 : decode cX6_hasPart 19 = .ok (.iconst 1, 1) := by decide +kernel
theorem dX6_hasPart_20 : decode cX6_hasPart 20 = .ok (.goto 4, 3) := by decide +kernel
theorem dX6_hasPart_23 : decode cX6_hasPart 23 = .ok (.iconst 0, 1) := by decide +kernel
theorem dX6_hasPart_24 : decode cX6_hasPart 24 = .ok (.ireturn, 1) := by decide +kernel
theorem dX6_playing_0 : decode cX6_playing 0 = .ok (.aload_n 0, 1) := by decide +kernel
theorem dX6_playing_1 : decode cX6_playing 1 = .ok (.getfield 52, 3) := by decide +kernel
theorem dX6_playing_4 : decode cX6_playing 4 = .ok (.ifCond .eq 19, 3) := by decide +kernel
theorem dX6_playing_7 : decode cX6_playing 7 = .ok (.iload_n 1, 1) := by decide +kernel
theorem dX6_playing_8 : decode cX6_playing 8 = .ok (.invokestatic 161, 3) := by decide +kernel
theorem dX6_playing_11 : decode cX6_playing 11 = .ok (.ifCond .eq 12, 3) := by decide +kernel
theorem dX6_playing_14 : decode cX6_playing 14 = .ok (.aload_n 0, 1) := by decide +kernel
theorem dX6_playing_15 : decode cX6_playing 15 = .ok (.getfield 32, 3) := by decide +kernel
theorem dX6_playing_18 : decode cX6_playing 18 = .ok (.iload_n 1, 1) := by decide +kernel
theorem dX6_playing_19 : decode cX6_playing 19 = .ok (.aaload, 1) := by decide +kernel
theorem dX6_playing_20 : decode cX6_playing 20 = .ok (.goto 4, 3) := by decide +kernel
theorem dX6_playing_23 : decode cX6_playing 23 = .ok (.aconst_null, 1) := by decide +kernel
theorem dX6_playing_24 : decode cX6_playing 24 = .ok (.areturn, 1) := by decide +kernel
theorem dX6_rowBetween_0 : decode cX6_rowBetween 0 = .ok (.aload_n 0, 1) := by decide +kernel
theorem dX6_rowBetween_1 : decode cX6_rowBetween 1 = .ok (.getfield 52, 3) := by decide +kernel
theorem dX6_rowBetween_4 : decode cX6_rowBetween 4 = .ok (.ifCond .eq 21, 3) := by decide +kernel
theorem dX6_rowBetween_7 : decode cX6_rowBetween 7 = .ok (.iload_n 1, 1) := by decide +kernel
theorem dX6_rowBetween_8 : decode cX6_rowBetween 8 = .ok (.invokestatic 161, 3) := by decide +kernel
theorem dX6_rowBetween_11 : decode cX6_rowBetween 11 = .ok (.ifCond .eq 14, 3) := by decide +kernel
theorem dX6_rowBetween_14 : decode cX6_rowBetween 14 = .ok (.iload_n 2, 1) := by decide +kernel
theorem dX6_rowBetween_15 : decode cX6_rowBetween 15 = .ok (.invokestatic 161, 3) := by decide +kernel
theorem dX6_rowBetween_18 : decode cX6_rowBetween 18 = .ok (.ifCond .eq 7, 3) := by decide +kernel
theorem dX6_rowBetween_21 : decode cX6_rowBetween 21 = .ok (.iconst 1, 1) := by decide +kernel
theorem dX6_rowBetween_22 : decode cX6_rowBetween 22 = .ok (.goto 4, 3) := by decide +kernel
theorem dX6_rowBetween_25 : decode cX6_rowBetween 25 = .ok (.iconst 0, 1) := by decide +kernel
theorem dX6_rowBetween_26 : decode cX6_rowBetween 26 = .ok (.istore_n 3, 1) := by decide +kernel
theorem dX6_rowBetween_27 : decode cX6_rowBetween 27 = .ok (.iload_n 3, 1) := by decide +kernel
theorem dX6_rowBetween_28 : decode cX6_rowBetween 28 = .ok (.ifCond .eq 16, 3) := by decide +kernel
theorem dX6_rowBetween_31 : decode cX6_rowBetween 31 = .ok (.aload_n 0, 1) := by decide +kernel
theorem dX6_rowBetween_32 : decode cX6_rowBetween 32 = .ok (.getfield 44, 3) := by decide +kernel
theorem dX6_rowBetween_35 : decode cX6_rowBetween 35 = .ok (.iload_n 1, 1) := by decide +kernel
theorem dX6_rowBetween_36 : decode cX6_rowBetween 36 = .ok (.iconst 4, 1) := by decide +kernel
theorem dX6_rowBetween_37 : decode cX6_rowBetween 37 = .ok (.imul, 1) := by decide +kernel
theorem dX6_rowBetween_38 : decode cX6_rowBetween 38 = .ok (.iload_n 2, 1) := by decide +kernel
theorem dX6_rowBetween_39 : decode cX6_rowBetween 39 = .ok (.iadd, 1) := by decide +kernel
theorem dX6_rowBetween_40 : decode cX6_rowBetween 40 = .ok (.aaload, 1) := by decide +kernel
theorem dX6_rowBetween_41 : decode cX6_rowBetween 41 = .ok (.goto 4, 3) := by decide +kernel
theorem dX6_rowBetween_44 : decode cX6_rowBetween 44 = .ok (.aconst_null, 1) := by decide +kernel
theorem dX6_rowBetween_45 : decode cX6_rowBetween 45 = .ok (.areturn, 1) := by decide +kernel
theorem dX6_canGoOn_0 : decode cX6_canGoOn 0 = .ok (.aload_n 0, 1) := by decide +kernel
theorem dX6_canGoOn_1 : decode cX6_canGoOn 1 = .ok (.iload_n 1, 1) := by decide +kernel
theorem dX6_canGoOn_2 : decode cX6_canGoOn 2 = .ok (.invokevirtual 101, 3) := by decide +kernel
theorem dX6_canGoOn_5 : decode cX6_canGoOn 5 = .ok (.astore_n 2, 1) := by decide +kernel
theorem dX6_canGoOn_6 : decode cX6_canGoOn 6 = .ok (.aload_n 2, 1) := by decide +kernel
theorem dX6_canGoOn_7 : decode cX6_canGoOn 7 = .ok (.ifnonnull 5, 3) := by decide +kernel
theorem dX6_canGoOn_10 : decode cX6_canGoOn 10 = .ok (.iconst 0, 1) := by decide +kernel
theorem dX6_canGoOn_11 : decode cX6_canGoOn 11 = .ok (.ireturn, 1) := by decide +kernel
theorem dX6_canGoOn_12 : decode cX6_canGoOn 12 = .ok (.aload_n 2, 1) := by decide +kernel
theorem dX6_canGoOn_13 : decode cX6_canGoOn 13 = .ok (.invokevirtual 105, 3) := by decide +kernel
theorem dX6_canGoOn_16 : decode cX6_canGoOn 16 = .ok (.istore_n 3, 1) := by decide +kernel
theorem dX6_canGoOn_17 : decode cX6_canGoOn 17 = .ok (.iload_n 3, 1) := by decide +kernel
theorem dX6_canGoOn_18 : decode cX6_canGoOn 18 = .ok (.iconst 1, 1) := by decide +kernel
theorem dX6_canGoOn_19 : decode cX6_canGoOn 19 = .ok (.if_icmp .ne 33, 3) := by decide +kernel
theorem dX6_canGoOn_22 : decode cX6_canGoOn 22 = .ok (.aload_n 0, 1) := by decide +kernel
theorem dX6_canGoOn_23 : decode cX6_canGoOn 23 = .ok (.iload_n 1, 1) := by decide +kernel
theorem dX6_canGoOn_24 : decode cX6_canGoOn 24 = .ok (.aload_n 2, 1) := by decide +kernel
theorem dX6_canGoOn_25 : decode cX6_canGoOn 25 = .ok (.invokevirtual 108, 3) := by decide +kernel
theorem dX6_canGoOn_28 : decode cX6_canGoOn 28 = .ok (.invokevirtual 115, 3) := by decide +kernel
theorem dX6_canGoOn_31 : decode cX6_canGoOn 31 = .ok (.astore 4, 2) := by decide +kernel
theorem dX6_canGoOn_33 : decode cX6_canGoOn 33 = .ok (.aload 4, 2) := by decide +kernel
theorem dX6_canGoOn_35 : decode cX6_canGoOn 35 = .ok (.ifnull 15, 3) := by decide +kernel
theorem dX6_canGoOn_38 : decode cX6_canGoOn 38 = .ok (.aload 4, 2) := by decide +kernel
theorem dX6_canGoOn_40 : decode cX6_canGoOn 40 = .ok (.invokevirtual 119, 3) := by decide +kernel
theorem dX6_canGoOn_43 : decode cX6_canGoOn 43 = .ok (.ifCond .ne 7, 3) := by decide +kernel
theorem dX6_canGoOn_46 : decode cX6_canGoOn 46 = .ok (.iconst 1, 1) := by decide +kernel
theorem dX6_canGoOn_47 : decode cX6_canGoOn 47 = .ok (.goto 4, 3) := by decide +kernel
theorem dX6_canGoOn_50 : decode cX6_canGoOn 50 = .ok (.iconst 0, 1) := by decide +kernel
theorem dX6_canGoOn_51 : decode cX6_canGoOn 51 = .ok (.ireturn, 1) := by decide +kernel
theorem dX6_canGoOn_52 : decode cX6_canGoOn 52 = .ok (.iload_n 3, 1) := by decide +kernel
theorem dX6_canGoOn_53 : decode cX6_canGoOn 53 = .ok (.iconst 2, 1) := by decide +kernel
theorem dX6_canGoOn_54 : decode cX6_canGoOn 54 = .ok (.if_icmp .ne 39, 3) := by decide +kernel
theorem dX6_canGoOn_57 : decode cX6_canGoOn 57 = .ok (.aload_n 0, 1) := by decide +kernel
theorem dX6_canGoOn_58 : decode cX6_canGoOn 58 = .ok (.aload_n 2, 1) := by decide +kernel
theorem dX6_canGoOn_59 : decode cX6_canGoOn 59 = .ok (.invokevirtual 108, 3) := by decide +kernel
theorem dX6_canGoOn_62 : decode cX6_canGoOn 62 = .ok (.iload_n 1, 1) := by decide +kernel
theorem dX6_canGoOn_63 : decode cX6_canGoOn 63 = .ok (.invokevirtual 115, 3) := by decide +kernel
theorem dX6_canGoOn_66 : decode cX6_canGoOn 66 = .ok (.astore 4, 2) := by decide +kernel
theorem dX6_canGoOn_68 : decode cX6_canGoOn 68 = .ok (.aload 4, 2) := by decide +kernel
theorem dX6_canGoOn_70 : decode cX6_canGoOn 70 = .ok (.ifnull 21, 3) := by decide +kernel
theorem dX6_canGoOn_73 : decode cX6_canGoOn 73 = .ok (.aload_n 2, 1) := by decide +kernel
theorem dX6_canGoOn_74 : decode cX6_canGoOn 74 = .ok (.aload 4, 2) := by decide +kernel
theorem dX6_canGoOn_76 : decode cX6_canGoOn 76 = .ok (.iconst 0, 1) := by decide +kernel
theorem dX6_canGoOn_77 : decode cX6_canGoOn 77 = .ok (.invokevirtual 129, 3) := by decide +kernel
theorem dX6_canGoOn_80 : decode cX6_canGoOn 80 = .ok (.invokevirtual 111, 3) := by decide +kernel
theorem dX6_canGoOn_83 : decode cX6_canGoOn 83 = .ok (.iconst (-1), 1) := by decide +kernel
theorem dX6_canGoOn_84 : decode cX6_canGoOn 84 = .ok (.if_icmp .eq 7, 3) := by decide +kernel
theorem dX6_canGoOn_87 : decode cX6_canGoOn 87 = .ok (.iconst 1, 1) := by decide +kernel
theorem dX6_canGoOn_88 : decode cX6_canGoOn 88 = .ok (.goto 4, 3) := by decide +kernel
theorem dX6_canGoOn_91 : decode cX6_canGoOn 91 = .ok (.iconst 0, 1) := by decide +kernel
theorem dX6_canGoOn_92 : decode cX6_canGoOn 92 = .ok (.ireturn, 1) := by decide +kernel
theorem dX6_canGoOn_93 : decode cX6_canGoOn 93 = .ok (.iconst 0, 1) := by decide +kernel
theorem dX6_canGoOn_94 : decode cX6_canGoOn 94 = .ok (.ireturn, 1) := by decide +kernel
theorem dX6_allEnded_0 : decode cX6_allEnded 0 = .ok (.iconst 0, 1) := by decide +kernel
theorem dX6_allEnded_1 : decode cX6_allEnded 1 = .ok (.istore_n 1, 1) := by decide +kernel
theorem dX6_allEnded_2 : decode cX6_allEnded 2 = .ok (.iload_n 1, 1) := by decide +kernel
theorem dX6_allEnded_3 : decode cX6_allEnded 3 = .ok (.iconst 4, 1) := by decide +kernel
theorem dX6_allEnded_4 : decode cX6_allEnded 4 = .ok (.if_icmp .ge 23, 3) := by decide +kernel
theorem dX6_allEnded_7 : decode cX6_allEnded 7 = .ok (.aload_n 0, 1) := by decide +kernel
theorem dX6_allEnded_8 : decode cX6_allEnded 8 = .ok (.getfield 32, 3) := by decide +kernel
theorem dX6_allEnded_11 : decode cX6_allEnded 11 = .ok (.iload_n 1, 1) := by decide +kernel
theorem dX6_allEnded_12 : decode cX6_allEnded 12 = .ok (.aaload, 1) := by decide +kernel
theorem dX6_allEnded_13 : decode cX6_allEnded 13 = .ok (.invokevirtual 105, 3) := by decide +kernel
theorem dX6_allEnded_16 : decode cX6_allEnded 16 = .ok (.ifCond .eq 5, 3) := by decide +kernel
theorem dX6_allEnded_19 : decode cX6_allEnded 19 = .ok (.iconst 0, 1) := by decide +kernel
theorem dX6_allEnded_20 : decode cX6_allEnded 20 = .ok (.ireturn, 1) := by decide +kernel
theorem dX6_allEnded_21 : decode cX6_allEnded 21 = .ok (.iinc 1 1, 3) := by decide +kernel
theorem dX6_allEnded_24 : decode cX6_allEnded 24 = .ok (.goto (-22), 3) := by decide +kernel
theorem dX6_allEnded_27 : decode cX6_allEnded 27 = .ok (.iconst 1, 1) := by decide +kernel
theorem dX6_allEnded_28 : decode cX6_allEnded 28 = .ok (.ireturn, 1) := by decide +kernel
theorem dX6_nothingOnTheWay_0 : decode cX6_nothingOnTheWay 0 = .ok (.iconst 0, 1) := by decide +kernel
theorem dX6_nothingOnTheWay_1 : decode cX6_nothingOnTheWay 1 = .ok (.istore_n 1, 1) := by decide +kernel
theorem dX6_nothingOnTheWay_2 : decode cX6_nothingOnTheWay 2 = .ok (.iload_n 1, 1) := by decide +kernel
theorem dX6_nothingOnTheWay_3 : decode cX6_nothingOnTheWay 3 = .ok (.bipush 16, 2) := by decide +kernel
theorem dX6_nothingOnTheWay_5 : decode cX6_nothingOnTheWay 5 = .ok (.if_icmp .ge 23, 3) := by decide +kernel
theorem dX6_nothingOnTheWay_8 : decode cX6_nothingOnTheWay 8 = .ok (.aload_n 0, 1) := by decide +kernel
theorem dX6_nothingOnTheWay_9 : decode cX6_nothingOnTheWay 9 = .ok (.getfield 44, 3) := by decide +kernel
theorem dX6_nothingOnTheWay_12 : decode cX6_nothingOnTheWay 12 = .ok (.iload_n 1, 1) := by decide +kernel
theorem dX6_nothingOnTheWay_13 : decode cX6_nothingOnTheWay 13 = .ok (.aaload, 1) := by decide +kernel
theorem dX6_nothingOnTheWay_14 : decode cX6_nothingOnTheWay 14 = .ok (.invokevirtual 128, 3) := by decide +kernel
theorem dX6_nothingOnTheWay_17 : decode cX6_nothingOnTheWay 17 = .ok (.ifCond .eq 5, 3) := by decide +kernel
theorem dX6_nothingOnTheWay_20 : decode cX6_nothingOnTheWay 20 = .ok (.iconst 0, 1) := by decide +kernel
theorem dX6_nothingOnTheWay_21 : decode cX6_nothingOnTheWay 21 = .ok (.ireturn, 1) := by decide +kernel
theorem dX6_nothingOnTheWay_22 : decode cX6_nothingOnTheWay 22 = .ok (.iinc 1 1, 3) := by decide +kernel
theorem dX6_nothingOnTheWay_25 : decode cX6_nothingOnTheWay 25 = .ok (.goto (-23), 3) := by decide +kernel
theorem dX6_nothingOnTheWay_28 : decode cX6_nothingOnTheWay 28 = .ok (.iconst 1, 1) := by decide +kernel
theorem dX6_nothingOnTheWay_29 : decode cX6_nothingOnTheWay 29 = .ok (.ireturn, 1) := by decide +kernel
theorem dX6_isRoleNumber_0 : decode cX6_isRoleNumber 0 = .ok (.iload_n 0, 1) := by decide +kernel
theorem dX6_isRoleNumber_1 : decode cX6_isRoleNumber 1 = .ok (.ifCond .lt 12, 3) := by decide +kernel
theorem dX6_isRoleNumber_4 : decode cX6_isRoleNumber 4 = .ok (.iload_n 0, 1) := by decide +kernel
theorem dX6_isRoleNumber_5 : decode cX6_isRoleNumber 5 = .ok (.iconst 4, 1) := by decide +kernel
theorem dX6_isRoleNumber_6 : decode cX6_isRoleNumber 6 = .ok (.if_icmp .ge 7, 3) := by decide +kernel
theorem dX6_isRoleNumber_9 : decode cX6_isRoleNumber 9 = .ok (.iconst 1, 1) := by decide +kernel
theorem dX6_isRoleNumber_10 : decode cX6_isRoleNumber 10 = .ok (.goto 4, 3) := by decide +kernel
theorem dX6_isRoleNumber_13 : decode cX6_isRoleNumber 13 = .ok (.iconst 0, 1) := by decide +kernel
theorem dX6_isRoleNumber_14 : decode cX6_isRoleNumber 14 = .ok (.ireturn, 1) := by decide +kernel
theorem dX6_isRole_0 : decode cX6_isRole 0 = .ok (.iload_n 0, 1) := by decide +kernel
theorem dX6_isRole_1 : decode cX6_isRole 1 = .ok (.bipush 65, 2) := by decide +kernel
theorem dX6_isRole_3 : decode cX6_isRole 3 = .ok (.if_icmp .lt 13, 3) := by decide +kernel
theorem dX6_isRole_6 : decode cX6_isRole 6 = .ok (.iload_n 0, 1) := by decide +kernel
theorem dX6_isRole_7 : decode cX6_isRole 7 = .ok (.bipush 69, 2) := by decide +kernel
theorem dX6_isRole_9 : decode cX6_isRole 9 = .ok (.if_icmp .ge 7, 3) := by decide +kernel
theorem dX6_isRole_12 : decode cX6_isRole 12 = .ok (.iconst 1, 1) := by decide +kernel
theorem dX6_isRole_13 : decode cX6_isRole 13 = .ok (.goto 4, 3) := by decide +kernel
theorem dX6_isRole_16 : decode cX6_isRole 16 = .ok (.iconst 0, 1) := by decide +kernel
theorem dX6_isRole_17 : decode cX6_isRole 17 = .ok (.ireturn, 1) := by decide +kernel
theorem dX6_isLabel_0 : decode cX6_isLabel 0 = .ok (.iload_n 0, 1) := by decide +kernel
theorem dX6_isLabel_1 : decode cX6_isLabel 1 = .ok (.bipush 112, 2) := by decide +kernel
theorem dX6_isLabel_3 : decode cX6_isLabel 3 = .ok (.if_icmp .lt 13, 3) := by decide +kernel
theorem dX6_isLabel_6 : decode cX6_isLabel 6 = .ok (.iload_n 0, 1) := by decide +kernel
theorem dX6_isLabel_7 : decode cX6_isLabel 7 = .ok (.bipush 118, 2) := by decide +kernel
theorem dX6_isLabel_9 : decode cX6_isLabel 9 = .ok (.if_icmp .ge 7, 3) := by decide +kernel
theorem dX6_isLabel_12 : decode cX6_isLabel 12 = .ok (.iconst 1, 1) := by decide +kernel
theorem dX6_isLabel_13 : decode cX6_isLabel 13 = .ok (.goto 4, 3) := by decide +kernel
theorem dX6_isLabel_16 : decode cX6_isLabel 16 = .ok (.iconst 0, 1) := by decide +kernel
theorem dX6_isLabel_17 : decode cX6_isLabel 17 = .ok (.ireturn, 1) := by decide +kernel
theorem dX6_isVariable_0 : decode cX6_isVariable 0 = .ok (.iload_n 0, 1) := by decide +kernel
theorem dX6_isVariable_1 : decode cX6_isVariable 1 = .ok (.bipush 88, 2) := by decide +kernel
theorem dX6_isVariable_3 : decode cX6_isVariable 3 = .ok (.if_icmp .lt 13, 3) := by decide +kernel
theorem dX6_isVariable_6 : decode cX6_isVariable 6 = .ok (.iload_n 0, 1) := by decide +kernel
theorem dX6_isVariable_7 : decode cX6_isVariable 7 = .ok (.bipush 91, 2) := by decide +kernel
theorem dX6_isVariable_9 : decode cX6_isVariable 9 = .ok (.if_icmp .ge 7, 3) := by decide +kernel
theorem dX6_isVariable_12 : decode cX6_isVariable 12 = .ok (.iconst 1, 1) := by decide +kernel
theorem dX6_isVariable_13 : decode cX6_isVariable 13 = .ok (.goto 4, 3) := by decide +kernel
theorem dX6_isVariable_16 : decode cX6_isVariable 16 = .ok (.iconst 0, 1) := by decide +kernel
theorem dX6_isVariable_17 : decode cX6_isVariable 17 = .ok (.ireturn, 1) := by decide +kernel
theorem dX7_init_0 : decode cX7_init 0 = .ok (.aload_n 0, 1) := by decide +kernel
theorem dX7_init_1 : decode cX7_init 1 = .ok (.invokespecial 1, 3) := by decide +kernel
theorem dX7_init_4 : decode cX7_init 4 = .ok (.aload_n 0, 1) := by decide +kernel
theorem dX7_init_5 : decode cX7_init 5 = .ok (.bipush 60, 2) := by decide +kernel
theorem dX7_init_7 : decode cX7_init 7 = .ok (.newarray .char, 2) := by decide +kernel
theorem dX7_init_9 : decode cX7_init 9 = .ok (.putfield 7, 3) := by decide +kernel
theorem dX7_init_12 : decode cX7_init 12 = .ok (.aload_n 0, 1) := by decide +kernel
theorem dX7_init_13 : decode cX7_init 13 = .ok (.bipush 60, 2) := by decide +kernel
theorem dX7_init_15 : decode cX7_init 15 = .ok (.newarray .int, 2) := by decide +kernel
theorem dX7_init_17 : decode cX7_init 17 = .ok (.putfield 13, 3) := by decide +kernel
theorem dX7_init_20 : decode cX7_init 20 = .ok (.aload_n 0, 1) := by decide +kernel
theorem dX7_init_21 : decode cX7_init 21 = .ok (.bipush 60, 2) := by decide +kernel
theorem dX7_init_23 : decode cX7_init 23 = .ok (.newarray .int, 2) := by decide +kernel
theorem dX7_init_25 : decode cX7_init 25 = .ok (.putfield 17, 3) := by decide +kernel
theorem dX7_init_28 : decode cX7_init 28 = .ok (.aload_n 0, 1) := by decide +kernel
theorem dX7_init_29 : decode cX7_init 29 = .ok (.bipush 60, 2) := by decide +kernel
theorem dX7_init_31 : decode cX7_init 31 = .ok (.newarray .int, 2) := by decide +kernel
theorem dX7_init_33 : decode cX7_init 33 = .ok (.putfield 20, 3) := by decide +kernel
theorem dX7_init_36 : decode cX7_init 36 = .ok (.aload_n 0, 1) := by decide +kernel
theorem dX7_init_37 : decode cX7_init 37 = .ok (.bipush 60, 2) := by decide +kernel
theorem dX7_init_39 : decode cX7_init 39 = .ok (.newarray .int, 2) := by decide +kernel
theorem dX7_init_41 : decode cX7_init 41 = .ok (.putfield 23, 3) := by decide +kernel
theorem dX7_init_44 : decode cX7_init 44 = .ok (.aload_n 0, 1) := by decide +kernel
theorem dX7_init_45 : decode cX7_init 45 = .ok (.bipush 60, 2) := by decide +kernel
theorem dX7_init_47 : decode cX7_init 47 = .ok (.newarray .int, 2) := by decide +kernel
theorem dX7_init_49 : decode cX7_init 49 = .ok (.putfield 26, 3) := by decide +kernel
theorem dX7_init_52 : decode cX7_init 52 = .ok (.aload_n 0, 1) := by decide +kernel
theorem dX7_init_53 : decode cX7_init 53 = .ok (.sipush 14400, 3) := by decide +kernel
theorem dX7_init_56 : decode cX7_init 56 = .ok (.newarray .char, 2) := by decide +kernel
theorem dX7_init_58 : decode cX7_init 58 = .ok (.putfield 29, 3) := by decide +kernel
theorem dX7_init_61 : decode cX7_init 61 = .ok (.aload_n 0, 1) := by decide +kernel
theorem dX7_init_62 : decode cX7_init 62 = .ok (.sipush 240, 3) := by decide +kernel
theorem dX7_init_65 : decode cX7_init 65 = .ok (.newarray .int, 2) := by decide +kernel
theorem dX7_init_67 : decode cX7_init 67 = .ok (.putfield 32, 3) := by decide +kernel
theorem dX7_init_70 : decode cX7_init 70 = .ok (.aload_n 0, 1) := by decide +kernel
theorem dX7_init_71 : decode cX7_init 71 = .ok (.sipush 240, 3) := by decide +kernel
theorem dX7_init_74 : decode cX7_init 74 = .ok (.newarray .char, 2) := by decide +kernel
theorem dX7_init_76 : decode cX7_init 76 = .ok (.putfield 35, 3) := by decide +kernel
theorem dX7_init_79 : decode cX7_init 79 = .ok (.aload_n 0, 1) := by decide +kernel
theorem dX7_init_80 : decode cX7_init 80 = .ok (.iconst 4, 1) := by decide +kernel
theorem dX7_init_81 : decode cX7_init 81 = .ok (.newarray .int, 2) := by decide +kernel
theorem dX7_init_83 : decode cX7_init 83 = .ok (.putfield 38, 3) := by decide +kernel
theorem dX7_init_86 : decode cX7_init 86 = .ok (.aload_n 0, 1) := by decide +kernel
theorem dX7_init_87 : decode cX7_init 87 = .ok (.iconst 4, 1) := by decide +kernel
theorem dX7_init_88 : decode cX7_init 88 = .ok (.newarray .int, 2) := by decide +kernel
theorem dX7_init_90 : decode cX7_init 90 = .ok (.putfield 41, 3) := by decide +kernel
theorem dX7_init_93 : decode cX7_init 93 = .ok (.aload_n 0, 1) := by decide +kernel
theorem dX7_init_94 : decode cX7_init 94 = .ok (.bipush 48, 2) := by decide +kernel
theorem dX7_init_96 : decode cX7_init 96 = .ok (.newarray .int, 2) := by decide +kernel
theorem dX7_init_98 : decode cX7_init 98 = .ok (.putfield 44, 3) := by decide +kernel
theorem dX7_init_101 : decode cX7_init 101 = .ok (.aload_n 0, 1) := by decide +kernel
theorem dX7_init_102 : decode cX7_init 102 = .ok (.bipush 16, 2) := by decide +kernel
theorem dX7_init_104 : decode cX7_init 104 = .ok (.newarray .int, 2) := by decide +kernel
theorem dX7_init_106 : decode cX7_init 106 = .ok (.putfield 47, 3) := by decide +kernel
theorem dX7_init_109 : decode cX7_init 109 = .ok (.return_, 1) := by decide +kernel
theorem dX7_type_0 : decode cX7_type 0 = .ok (.iload_n 1, 1) := by decide +kernel
theorem dX7_type_1 : decode cX7_type 1 = .ok (.bipush 32, 2) := by decide +kernel
theorem dX7_type_3 : decode cX7_type 3 = .ok (.if_icmp .lt 18, 3) := by decide +kernel
theorem dX7_type_6 : decode cX7_type 6 = .ok (.iload_n 1, 1) := by decide +kernel
theorem dX7_type_7 : decode cX7_type 7 = .ok (.bipush 126, 2) := by decide +kernel
theorem dX7_type_9 : decode cX7_type 9 = .ok (.if_icmp .gt 12, 3) := by decide +kernel
theorem dX7_type_12 : decode cX7_type 12 = .ok (.aload_n 0, 1) := by decide +kernel
theorem dX7_type_13 : decode cX7_type 13 = .ok (.getfield 50, 3) := by decide +kernel
theorem dX7_type_16 : decode cX7_type 16 = .ok (.bipush 60, 2) := by decide +kernel
theorem dX7_type_18 : decode cX7_type 18 = .ok (.if_icmp .ne 5, 3) := by decide +kernel
theorem dX7_type_21 : decode cX7_type 21 = .ok (.iconst 0, 1) := by decide +kernel
theorem dX7_type_22 : decode cX7_type 22 = .ok (.ireturn, 1) := by decide +kernel
theorem dX7_type_23 : decode cX7_type 23 = .ok (.aload_n 0, 1) := by decide +kernel
theorem dX7_type_24 : decode cX7_type 24 = .ok (.getfield 7, 3) := by decide +kernel
theorem dX7_type_27 : decode cX7_type 27 = .ok (.aload_n 0, 1) := by decide +kernel
theorem dX7_type_28 : decode cX7_type 28 = .ok (.getfield 50, 3) := by decide +kernel
theorem dX7_type_31 : decode cX7_type 31 = .ok (.iload_n 1, 1) := by decide +kernel
theorem dX7_type_32 : decode cX7_type 32 = .ok (.castore, 1) := by decide +kernel
theorem dX7_type_33 : decode cX7_type 33 = .ok (.aload_n 0, 1) := by decide +kernel
theorem dX7_type_34 : decode cX7_type 34 = .ok (.dup, 1) := by decide +kernel
theorem dX7_type_35 : decode cX7_type 35 = .ok (.getfield 50, 3) := by decide +kernel
theorem dX7_type_38 : decode cX7_type 38 = .ok (.iconst 1, 1) := by decide +kernel
theorem dX7_type_39 : decode cX7_type 39 = .ok (.iadd, 1) := by decide +kernel
theorem dX7_type_40 : decode cX7_type 40 = .ok (.putfield 50, 3) := by decide +kernel
theorem dX7_type_43 : decode cX7_type 43 = .ok (.iconst 1, 1) := by decide +kernel
theorem dX7_type_44 : decode cX7_type 44 = .ok (.ireturn, 1) := by decide +kernel
theorem dX7_isVariable_0 : decode cX7_isVariable 0 = .ok (.iload_n 0, 1) := by decide +kernel
theorem dX7_isVariable_1 : decode cX7_isVariable 1 = .ok (.bipush 88, 2) := by decide +kernel
theorem dX7_isVariable_3 : decode cX7_isVariable 3 = .ok (.if_icmp .lt 13, 3) := by decide +kernel
theorem dX7_isVariable_6 : decode cX7_isVariable 6 = .ok (.iload_n 0, 1) := by decide +kernel
theorem dX7_isVariable_7 : decode cX7_isVariable 7 = .ok (.bipush 90, 2) := by decide +kernel
theorem dX7_isVariable_9 : decode cX7_isVariable 9 = .ok (.if_icmp .gt 7, 3) := by decide +kernel
theorem dX7_isVariable_12 : decode cX7_isVariable 12 = .ok (.iconst 1, 1) := by decide +kernel
theorem dX7_isVariable_13 : decode cX7_isVariable 13 = .ok (.goto 4, 3) := by decide +kernel
theorem dX7_isVariable_16 : decode cX7_isVariable 16 = .ok (.iconst 0, 1) := by decide +kernel
theorem dX7_isVariable_17 : decode cX7_isVariable 17 = .ok (.ireturn, 1) := by decide +kernel
theorem dX7_isRole_0 : decode cX7_isRole 0 = .ok (.iload_n 0, 1) := by decide +kernel
theorem dX7_isRole_1 : decode cX7_isRole 1 = .ok (.bipush 65, 2) := by decide +kernel
theorem dX7_isRole_3 : decode cX7_isRole 3 = .ok (.if_icmp .lt 13, 3) := by decide +kernel
theorem dX7_isRole_6 : decode cX7_isRole 6 = .ok (.iload_n 0, 1) := by decide +kernel
theorem dX7_isRole_7 : decode cX7_isRole 7 = .ok (.bipush 68, 2) := by decide +kernel
theorem dX7_isRole_9 : decode cX7_isRole 9 = .ok (.if_icmp .gt 7, 3) := by decide +kernel
theorem dX7_isRole_12 : decode cX7_isRole 12 = .ok (.iconst 1, 1) := by decide +kernel
theorem dX7_isRole_13 : decode cX7_isRole 13 = .ok (.goto 4, 3) := by decide +kernel
theorem dX7_isRole_16 : decode cX7_isRole 16 = .ok (.iconst 0, 1) := by decide +kernel
theorem dX7_isRole_17 : decode cX7_isRole 17 = .ok (.ireturn, 1) := by decide +kernel
theorem dX7_isLabel_0 : decode cX7_isLabel 0 = .ok (.iload_n 0, 1) := by decide +kernel
theorem dX7_isLabel_1 : decode cX7_isLabel 1 = .ok (.bipush 112, 2) := by decide +kernel
theorem dX7_isLabel_3 : decode cX7_isLabel 3 = .ok (.if_icmp .lt 13, 3) := by decide +kernel
theorem dX7_isLabel_6 : decode cX7_isLabel 6 = .ok (.iload_n 0, 1) := by decide +kernel
theorem dX7_isLabel_7 : decode cX7_isLabel 7 = .ok (.bipush 117, 2) := by decide +kernel
theorem dX7_isLabel_9 : decode cX7_isLabel 9 = .ok (.if_icmp .gt 7, 3) := by decide +kernel
theorem dX7_isLabel_12 : decode cX7_isLabel 12 = .ok (.iconst 1, 1) := by decide +kernel
theorem dX7_isLabel_13 : decode cX7_isLabel 13 = .ok (.goto 4, 3) := by decide +kernel
theorem dX7_isLabel_16 : decode cX7_isLabel 16 = .ok (.iconst 0, 1) := by decide +kernel
theorem dX7_isLabel_17 : decode cX7_isLabel 17 = .ok (.ireturn, 1) := by decide +kernel
theorem dX7_piece_0 : decode cX7_piece 0 = .ok (.aload_n 0, 1) := by decide +kernel
theorem dX7_piece_1 : decode cX7_piece 1 = .ok (.getfield 13, 3) := by decide +kernel
theorem dX7_piece_4 : decode cX7_piece 4 = .ok (.aload_n 0, 1) := by decide +kernel
theorem dX7_piece_5 : decode cX7_piece 5 = .ok (.getfield 54, 3) := by decide +kernel
theorem dX7_piece_8 : decode cX7_piece 8 = .ok (.iload_n 1, 1) := by decide +kernel
theorem dX7_piece_9 : decode cX7_piece 9 = .ok (.iastore, 1) := by decide +kernel
theorem dX7_piece_10 : decode cX7_piece 10 = .ok (.aload_n 0, 1) := by decide +kernel
theorem dX7_piece_11 : decode cX7_piece 11 = .ok (.getfield 17, 3) := by decide +kernel
theorem dX7_piece_14 : decode cX7_piece 14 = .ok (.aload_n 0, 1) := by decide +kernel
theorem dX7_piece_15 : decode cX7_piece 15 = .ok (.getfield 54, 3) := by decide +kernel
theorem dX7_piece_18 : decode cX7_piece 18 = .ok (.iload_n 2, 1) := by decide +kernel
theorem dX7_piece_19 : decode cX7_piece 19 = .ok (.iastore, 1) := by decide +kernel
theorem dX7_piece_20 : decode cX7_piece 20 = .ok (.aload_n 0, 1) := by decide +kernel
theorem dX7_piece_21 : decode cX7_piece 21 = .ok (.getfield 20, 3) := by decide +kernel
theorem dX7_piece_24 : decode cX7_piece 24 = .ok (.aload_n 0, 1) := by decide +kernel
theorem dX7_piece_25 : decode cX7_piece 25 = .ok (.getfield 54, 3) := by decide +kernel
theorem dX7_piece_28 : decode cX7_piece 28 = .ok (.iload_n 3, 1) := by decide +kernel
theorem dX7_piece_29 : decode cX7_piece 29 = .ok (.iastore, 1) := by decide +kernel
theorem dX7_piece_30 : decode cX7_piece 30 = .ok (.aload_n 0, 1) := by decide +kernel
theorem dX7_piece_31 : decode cX7_piece 31 = .ok (.getfield 23, 3) := by decide +kernel
theorem dX7_piece_34 : decode cX7_piece 34 = .ok (.aload_n 0, 1) := by decide +kernel
theorem dX7_piece_35 : decode cX7_piece 35 = .ok (.getfield 54, 3) := by decide +kernel
theorem dX7_piece_38 : decode cX7_piece 38 = .ok (.iload 4, 2) := by decide +kernel
theorem dX7_piece_40 : decode cX7_piece 40 = .ok (.iastore, 1) := by decide +kernel
theorem dX7_piece_41 : decode cX7_piece 41 = .ok (.aload_n 0, 1) := by decide +kernel
theorem dX7_piece_42 : decode cX7_piece 42 = .ok (.getfield 26, 3) := by decide +kernel
theorem dX7_piece_45 : decode cX7_piece 45 = .ok (.aload_n 0, 1) := by decide +kernel
theorem dX7_piece_46 : decode cX7_piece 46 = .ok (.getfield 54, 3) := by decide +kernel
theorem dX7_piece_49 : decode cX7_piece 49 = .ok (.iload 5, 2) := by decide +kernel
theorem dX7_piece_51 : decode cX7_piece 51 = .ok (.iastore, 1) := by decide +kernel
theorem dX7_piece_52 : decode cX7_piece 52 = .ok (.aload_n 0, 1) := by decide +kernel
theorem dX7_piece_53 : decode cX7_piece 53 = .ok (.dup, 1) := by decide +kernel
theorem dX7_piece_54 : decode cX7_piece 54 = .ok (.getfield 54, 3) := by decide +kernel
theorem dX7_piece_57 : decode cX7_piece 57 = .ok (.iconst 1, 1) := by decide +kernel
theorem dX7_piece_58 : decode cX7_piece 58 = .ok (.iadd, 1) := by decide +kernel
theorem dX7_piece_59 : decode cX7_piece 59 = .ok (.putfield 54, 3) := by decide +kernel
theorem dX7_piece_62 : decode cX7_piece 62 = .ok (.aload_n 0, 1) := by decide +kernel
theorem dX7_piece_63 : decode cX7_piece 63 = .ok (.getfield 54, 3) := by decide +kernel
theorem dX7_piece_66 : decode cX7_piece 66 = .ok (.iconst 1, 1) := by decide +kernel
theorem dX7_piece_67 : decode cX7_piece 67 = .ok (.isub, 1) := by decide +kernel
theorem dX7_piece_68 : decode cX7_piece 68 = .ok (.ireturn, 1) := by decide +kernel
theorem dX7_ended_0 : decode cX7_ended 0 = .ok (.iload_n 1, 1) := by decide +kernel
theorem dX7_ended_1 : decode cX7_ended 1 = .ok (.istore_n 2, 1) := by decide +kernel
theorem dX7_ended_2 : decode cX7_ended 2 = .ok (.iload_n 2, 1) := by decide +kernel
theorem dX7_ended_3 : decode cX7_ended 3 = .ok (.ifCond .lt 23, 3) := by decide +kernel
theorem dX7_ended_6 : decode cX7_ended 6 = .ok (.aload_n 0, 1) := by decide +kernel
theorem dX7_ended_7 : decode cX7_ended 7 = .ok (.getfield 13, 3) := by decide +kernel
theorem dX7_ended_10 : decode cX7_ended 10 = .ok (.iload_n 2, 1) := by decide +kernel
theorem dX7_ended_11 : decode cX7_ended 11 = .ok (.iaload, 1) := by decide +kernel
theorem dX7_ended_12 : decode cX7_ended 12 = .ok (.iconst 2, 1) := by decide +kernel
theorem dX7_ended_13 : decode cX7_ended 13 = .ok (.if_icmp .ne 13, 3) := by decide +kernel
theorem dX7_ended_16 : decode cX7_ended 16 = .ok (.aload_n 0, 1) := by decide +kernel
theorem dX7_ended_17 : decode cX7_ended 17 = .ok (.getfield 23, 3) := by decide +kernel
theorem dX7_ended_20 : decode cX7_ended 20 = .ok (.iload_n 2, 1) := by decide +kernel
theorem dX7_ended_21 : decode cX7_ended 21 = .ok (.iaload, 1) := by decide +kernel
theorem dX7_ended_22 : decode cX7_ended 22 = .ok (.istore_n 2, 1) := by decide +kernel
theorem dX7_ended_23 : decode cX7_ended 23 = .ok (.goto (-21), 3) := by decide +kernel
theorem dX7_ended_26 : decode cX7_ended 26 = .ok (.iload_n 2, 1) := by decide +kernel
theorem dX7_ended_27 : decode cX7_ended 27 = .ok (.ireturn, 1) := by decide +kernel
theorem dX7_afterStart_0 : decode cX7_afterStart 0 = .ok (.iload_n 0, 1) := by decide +kernel
theorem dX7_afterStart_1 : decode cX7_afterStart 1 = .ok (.bipush 101, 2) := by decide +kernel
theorem dX7_afterStart_3 : decode cX7_afterStart 3 = .ok (.if_icmp .eq 10, 3) := by decide +kernel
theorem dX7_afterStart_6 : decode cX7_afterStart 6 = .ok (.iload_n 0, 1) := by decide +kernel
theorem dX7_afterStart_7 : decode cX7_afterStart 7 = .ok (.invokestatic 57, 3) := by decide +kernel
theorem dX7_afterStart_10 : decode cX7_afterStart 10 = .ok (.ifCond .eq 8, 3) := by decide +kernel
theorem dX7_afterStart_13 : decode cX7_afterStart 13 = .ok (.bipush 6, 2) := by decide +kernel
theorem dX7_afterStart_15 : decode cX7_afterStart 15 = .ok (.goto 25, 3) := by decide +kernel
theorem dX7_afterStart_18 : decode cX7_afterStart 18 = .ok (.iload_n 0, 1) := by decide +kernel
theorem dX7_afterStart_19 : decode cX7_afterStart 19 = .ok (.bipush 109, 2) := by decide +kernel
theorem dX7_afterStart_21 : decode cX7_afterStart 21 = .ok (.if_icmp .ne 7, 3) := by decide +kernel
theorem dX7_afterStart_24 : decode cX7_afterStart 24 = .ok (.iconst 1, 1) := by decide +kernel
theorem dX7_afterStart_25 : decode cX7_afterStart 25 = .ok (.goto 15, 3) := by decide +kernel
theorem dX7_afterStart_28 : decode cX7_afterStart 28 = .ok (.iload_n 0, 1) := by decide +kernel
theorem dX7_afterStart_29 : decode cX7_afterStart 29 = .ok (.invokestatic 61, 3) := by decide +kernel
theorem dX7_afterStart_32 : decode cX7_afterStart 32 = .ok (.ifCond .eq 7, 3) := by decide +kernel
theorem dX7_afterStart_35 : decode cX7_afterStart 35 = .ok (.iconst 3, 1) := by decide +kernel
theorem dX7_afterStart_36 : decode cX7_afterStart 36 = .ok (.goto 4, 3) := by decide +kernel
theorem dX7_afterStart_39 : decode cX7_afterStart 39 = .ok (.iconst (-1), 1) := by decide +kernel
theorem dX7_afterStart_40 : decode cX7_afterStart 40 = .ok (.ireturn, 1) := by decide +kernel
theorem dX7_read_0 : decode cX7_read 0 = .ok (.aload_n 0, 1) := by decide +kernel
theorem dX7_read_1 : decode cX7_read 1 = .ok (.iconst 0, 1) := by decide +kernel
theorem dX7_read_2 : decode cX7_read 2 = .ok (.putfield 54, 3) := by decide +kernel
theorem dX7_read_5 : decode cX7_read 5 = .ok (.iconst 0, 1) := by decide +kernel
theorem dX7_read_6 : decode cX7_read 6 = .ok (.istore_n 1, 1) := by decide +kernel
theorem dX7_read_7 : decode cX7_read 7 = .ok (.iconst (-1), 1) := by decide +kernel
theorem dX7_read_8 : decode cX7_read 8 = .ok (.istore_n 2, 1) := by decide +kernel
theorem dX7_read_9 : decode cX7_read 9 = .ok (.iconst 0, 1) := by decide +kernel
theorem dX7_read_10 : decode cX7_read 10 = .ok (.istore_n 3, 1) := by decide +kernel
theorem dX7_read_11 : decode cX7_read 11 = .ok (.iconst 0, 1) := by decide +kernel
theorem dX7_read_12 : decode cX7_read 12 = .ok (.istore 4, 2) := by decide +kernel
theorem dX7_read_14 : decode cX7_read 14 = .ok (.iconst 0, 1) := by decide +kernel
theorem dX7_read_15 : decode cX7_read 15 = .ok (.istore 5, 2) := by decide +kernel
theorem dX7_read_17 : decode cX7_read 17 = .ok (.iconst 0, 1) := by decide +kernel
theorem dX7_read_18 : decode cX7_read 18 = .ok (.istore 6, 2) := by decide +kernel
theorem dX7_read_20 : decode cX7_read 20 = .ok (.iload 6, 2) := by decide +kernel
theorem dX7_read_22 : decode cX7_read 22 = .ok (.aload_n 0, 1) := by decide +kernel
theorem dX7_read_23 : decode cX7_read 23 = .ok (.getfield 50, 3) := by decide +kernel
theorem dX7_read_26 : decode cX7_read 26 = .ok (.if_icmp .ge 283, 3) := by decide +kernel
theorem dX7_read_29 : decode cX7_read 29 = .ok (.aload_n 0, 1) := by decide +kernel
theorem dX7_read_30 : decode cX7_read 30 = .ok (.getfield 7, 3) := by decide +kernel
theorem dX7_read_33 : decode cX7_read 33 = .ok (.iload 6, 2) := by decide +kernel
theorem dX7_read_35 : decode cX7_read 35 = .ok (.caload, 1) := by decide +kernel
theorem dX7_read_36 : decode cX7_read 36 = .ok (.istore 7, 2) := by decide +kernel
theorem dX7_read_38 : decode cX7_read 38 = .ok (.iconst (-1), 1) := by decide +kernel
theorem dX7_read_39 : decode cX7_read 39 = .ok (.istore 8, 2) := by decide +kernel
theorem dX7_read_41 : decode cX7_read 41 = .ok (.iload_n 1, 1) := by decide +kernel
theorem dX7_read_42 : decode cX7_read 42 = .ok (.ifCond .ne 66, 3) := by decide +kernel
theorem dX7_read_45 : decode cX7_read 45 = .ok (.iload 7, 2) := by decide +kernel
theorem dX7_read_47 : decode cX7_read 47 = .ok (.invokestatic 64, 3) := by decide +kernel
theorem dX7_read_50 : decode cX7_read 50 = .ok (.istore 8, 2) := by decide +kernel
theorem dX7_read_52 : decode cX7_read 52 = .ok (.iload 7, 2) := by decide +kernel
theorem dX7_read_54 : decode cX7_read 54 = .ok (.bipush 109, 2) := by decide +kernel
theorem dX7_read_56 : decode cX7_read 56 = .ok (.if_icmp .ne 7, 3) := by decide +kernel
theorem dX7_read_59 : decode cX7_read 59 = .ok (.iconst 1, 1) := by decide +kernel
theorem dX7_read_60 : decode cX7_read 60 = .ok (.goto 4, 3) := by decide +kernel
theorem dX7_read_63 : decode cX7_read 63 = .ok (.iconst 0, 1) := by decide +kernel
theorem dX7_read_64 : decode cX7_read 64 = .ok (.istore 5, 2) := by decide +kernel
theorem dX7_read_66 : decode cX7_read 66 = .ok (.iload 7, 2) := by decide +kernel
theorem dX7_read_68 : decode cX7_read 68 = .ok (.istore_n 3, 1) := by decide +kernel
theorem dX7_read_69 : decode cX7_read 69 = .ok (.iload 8, 2) := by decide +kernel
theorem dX7_read_71 : decode cX7_read 71 = .ok (.bipush 6, 2) := by decide +kernel
theorem dX7_read_73 : decode cX7_read 73 = .ok (.if_icmp .ne 203, 3) := by decide +kernel
theorem dX7_read_76 : decode cX7_read 76 = .ok (.aload_n 0, 1) := by decide +kernel
theorem dX7_read_77 : decode cX7_read 77 = .ok (.iload 7, 2) := by decide +kernel
theorem dX7_read_79 : decode cX7_read 79 = .ok (.bipush 101, 2) := by decide +kernel
theorem dX7_read_81 : decode cX7_read 81 = .ok (.if_icmp .ne 7, 3) := by decide +kernel
theorem dX7_read_84 : decode cX7_read 84 = .ok (.iconst 0, 1) := by decide +kernel
theorem dX7_read_85 : decode cX7_read 85 = .ok (.goto 4, 3) := by decide +kernel
theorem dX7_read_88 : decode cX7_read 88 = .ok (.iconst 1, 1) := by decide +kernel
theorem dX7_read_89 : decode cX7_read 89 = .ok (.iload 7, 2) := by decide +kernel
theorem dX7_read_91 : decode cX7_read 91 = .ok (.iconst 0, 1) := by decide +kernel
theorem dX7_read_92 : decode cX7_read 92 = .ok (.iload_n 2, 1) := by decide +kernel
theorem dX7_read_93 : decode cX7_read 93 = .ok (.iload 4, 2) := by decide +kernel
theorem dX7_read_95 : decode cX7_read 95 = .ok (.invokevirtual 68, 3) := by decide +kernel
theorem dX7_read_98 : decode cX7_read 98 = .ok (.pop, 1) := by decide +kernel
theorem dX7_read_99 : decode cX7_read 99 = .ok (.aload_n 0, 1) := by decide +kernel
theorem dX7_read_100 : decode cX7_read 100 = .ok (.iload_n 2, 1) := by decide +kernel
theorem dX7_read_101 : decode cX7_read 101 = .ok (.invokevirtual 72, 3) := by decide +kernel
theorem dX7_read_104 : decode cX7_read 104 = .ok (.istore_n 2, 1) := by decide +kernel
theorem dX7_read_105 : decode cX7_read 105 = .ok (.goto 171, 3) := by decide +kernel
theorem dX7_read_108 : decode cX7_read 108 = .ok (.iload_n 1, 1) := by decide +kernel
theorem dX7_read_109 : decode cX7_read 109 = .ok (.iconst 1, 1) := by decide +kernel
theorem dX7_read_110 : decode cX7_read 110 = .ok (.if_icmp .ne 29, 3) := by decide +kernel
theorem dX7_read_113 : decode cX7_read 113 = .ok (.iload 7, 2) := by decide +kernel
theorem dX7_read_115 : decode cX7_read 115 = .ok (.invokestatic 57, 3) := by decide +kernel
theorem dX7_read_118 : decode cX7_read 118 = .ok (.ifCond .eq 21, 3) := by decide +kernel
theorem dX7_read_121 : decode cX7_read 121 = .ok (.aload_n 0, 1) := by decide +kernel
theorem dX7_read_122 : decode cX7_read 122 = .ok (.iconst 2, 1) := by decide +kernel
theorem dX7_read_123 : decode cX7_read 123 = .ok (.iload 7, 2) := by decide +kernel
theorem dX7_read_125 : decode cX7_read 125 = .ok (.iconst 0, 1) := by decide +kernel
theorem dX7_read_126 : decode cX7_read 126 = .ok (.iload_n 2, 1) := by decide +kernel
theorem dX7_read_127 : decode cX7_read 127 = .ok (.iload 4, 2) := by decide +kernel
theorem dX7_read_129 : decode cX7_read 129 = .ok (.invokevirtual 68, 3) := by decide +kernel
theorem dX7_read_132 : decode cX7_read 132 = .ok (.istore_n 2, 1) := by decide +kernel
theorem dX7_read_133 : decode cX7_read 133 = .ok (.iconst 2, 1) := by decide +kernel
theorem dX7_read_134 : decode cX7_read 134 = .ok (.istore 8, 2) := by decide +kernel
theorem dX7_read_136 : decode cX7_read 136 = .ok (.goto 140, 3) := by decide +kernel
theorem dX7_read_139 : decode cX7_read 139 = .ok (.iload_n 1, 1) := by decide +kernel
theorem dX7_read_140 : decode cX7_read 140 = .ok (.iconst 3, 1) := by decide +kernel
theorem dX7_read_141 : decode cX7_read 141 = .ok (.if_icmp .ne 29, 3) := by decide +kernel
theorem dX7_read_144 : decode cX7_read 144 = .ok (.iload 7, 2) := by decide +kernel
theorem dX7_read_146 : decode cX7_read 146 = .ok (.invokestatic 61, 3) := by decide +kernel
theorem dX7_read_149 : decode cX7_read 149 = .ok (.ifCond .eq 21, 3) := by decide +kernel
theorem dX7_read_152 : decode cX7_read 152 = .ok (.aload_n 0, 1) := by decide +kernel
theorem dX7_read_153 : decode cX7_read 153 = .ok (.iconst 3, 1) := by decide +kernel
theorem dX7_read_154 : decode cX7_read 154 = .ok (.iload_n 3, 1) := by decide +kernel
theorem dX7_read_155 : decode cX7_read 155 = .ok (.iload 7, 2) := by decide +kernel
theorem dX7_read_157 : decode cX7_read 157 = .ok (.iload_n 2, 1) := by decide +kernel
theorem dX7_read_158 : decode cX7_read 158 = .ok (.iload 4, 2) := by decide +kernel
theorem dX7_read_160 : decode cX7_read 160 = .ok (.invokevirtual 68, 3) := by decide +kernel
theorem dX7_read_163 : decode cX7_read 163 = .ok (.istore_n 2, 1) := by decide +kernel
theorem dX7_read_164 : decode cX7_read 164 = .ok (.iconst 4, 1) := by decide +kernel
theorem dX7_read_165 : decode cX7_read 165 = .ok (.istore 8, 2) := by decide +kernel
theorem dX7_read_167 : decode cX7_read 167 = .ok (.goto 109, 3) := by decide +kernel
theorem dX7_read_170 : decode cX7_read 170 = .ok (.iload_n 1, 1) := by decide +kernel
theorem dX7_read_171 : decode cX7_read 171 = .ok (.iconst 2, 1) := by decide +kernel
theorem dX7_read_172 : decode cX7_read 172 = .ok (.if_icmp .ne 16, 3) := by decide +kernel
theorem dX7_read_175 : decode cX7_read 175 = .ok (.iload 7, 2) := by decide +kernel
theorem dX7_read_177 : decode cX7_read 177 = .ok (.bipush 46, 2) := by decide +kernel
theorem dX7_read_179 : decode cX7_read 179 = .ok (.if_icmp .ne 9, 3) := by decide +kernel
theorem dX7_read_182 : decode cX7_read 182 = .ok (.iconst 0, 1) := by decide +kernel
theorem dX7_read_183 : decode cX7_read 183 = .ok (.istore 8, 2) := by decide +kernel
theorem dX7_read_185 : decode cX7_read 185 = .ok (.goto 91, 3) := by decide +kernel
theorem dX7_read_188 : decode cX7_read 188 = .ok (.iload_n 1, 1) := by decide +kernel
theorem dX7_read_189 : decode cX7_read 189 = .ok (.iconst 4, 1) := by decide +kernel
theorem dX7_read_190 : decode cX7_read 190 = .ok (.if_icmp .ne 16, 3) := by decide +kernel
theorem dX7_read_193 : decode cX7_read 193 = .ok (.iload 7, 2) := by decide +kernel
theorem dX7_read_195 : decode cX7_read 195 = .ok (.bipush 123, 2) := by decide +kernel
theorem dX7_read_197 : decode cX7_read 197 = .ok (.if_icmp .ne 9, 3) := by decide +kernel
theorem dX7_read_200 : decode cX7_read 200 = .ok (.iconst 5, 1) := by decide +kernel
theorem dX7_read_201 : decode cX7_read 201 = .ok (.istore 8, 2) := by decide +kernel
theorem dX7_read_203 : decode cX7_read 203 = .ok (.goto 73, 3) := by decide +kernel
theorem dX7_read_206 : decode cX7_read 206 = .ok (.iload_n 1, 1) := by decide +kernel
theorem dX7_read_207 : decode cX7_read 207 = .ok (.iconst 5, 1) := by decide +kernel
theorem dX7_read_208 : decode cX7_read 208 = .ok (.if_icmp .ne 21, 3) := by decide +kernel
theorem dX7_read_211 : decode cX7_read 211 = .ok (.iload 7, 2) := by decide +kernel
theorem dX7_read_213 : decode cX7_read 213 = .ok (.invokestatic 75, 3) := by decide +kernel
theorem dX7_read_216 : decode cX7_read 216 = .ok (.ifCond .eq 13, 3) := by decide +kernel
theorem dX7_read_219 : decode cX7_read 219 = .ok (.iload 7, 2) := by decide +kernel
theorem dX7_read_221 : decode cX7_read 221 = .ok (.istore 4, 2) := by decide +kernel
theorem dX7_read_223 : decode cX7_read 223 = .ok (.iconst 2, 1) := by decide +kernel
theorem dX7_read_224 : decode cX7_read 224 = .ok (.istore 8, 2) := by decide +kernel
theorem dX7_read_226 : decode cX7_read 226 = .ok (.goto 50, 3) := by decide +kernel
theorem dX7_read_229 : decode cX7_read 229 = .ok (.iload_n 1, 1) := by decide +kernel
theorem dX7_read_230 : decode cX7_read 230 = .ok (.bipush 6, 2) := by decide +kernel
theorem dX7_read_232 : decode cX7_read 232 = .ok (.if_icmp .ne 16, 3) := by decide +kernel
theorem dX7_read_235 : decode cX7_read 235 = .ok (.iload 7, 2) := by decide +kernel
theorem dX7_read_237 : decode cX7_read 237 = .ok (.bipush 44, 2) := by decide +kernel
theorem dX7_read_239 : decode cX7_read 239 = .ok (.if_icmp .ne 9, 3) := by decide +kernel
theorem dX7_read_242 : decode cX7_read 242 = .ok (.iconst 5, 1) := by decide +kernel
theorem dX7_read_243 : decode cX7_read 243 = .ok (.istore 8, 2) := by decide +kernel
theorem dX7_read_245 : decode cX7_read 245 = .ok (.goto 31, 3) := by decide +kernel
theorem dX7_read_248 : decode cX7_read 248 = .ok (.iload_n 1, 1) := by decide +kernel
theorem dX7_read_249 : decode cX7_read 249 = .ok (.bipush 6, 2) := by decide +kernel
theorem dX7_read_251 : decode cX7_read 251 = .ok (.if_icmp .ne 25, 3) := by decide +kernel
theorem dX7_read_254 : decode cX7_read 254 = .ok (.iload 7, 2) := by decide +kernel
theorem dX7_read_256 : decode cX7_read 256 = .ok (.bipush 125, 2) := by decide +kernel
theorem dX7_read_258 : decode cX7_read 258 = .ok (.if_icmp .ne 18, 3) := by decide +kernel
theorem dX7_read_261 : decode cX7_read 261 = .ok (.aload_n 0, 1) := by decide +kernel
theorem dX7_read_262 : decode cX7_read 262 = .ok (.aload_n 0, 1) := by decide +kernel
theorem dX7_read_263 : decode cX7_read 263 = .ok (.getfield 23, 3) := by decide +kernel
theorem dX7_read_266 : decode cX7_read 266 = .ok (.iload_n 2, 1) := by decide +kernel
theorem dX7_read_267 : decode cX7_read 267 = .ok (.iaload, 1) := by decide +kernel
theorem dX7_read_268 : decode cX7_read 268 = .ok (.invokevirtual 72, 3) := by decide +kernel
theorem dX7_read_271 : decode cX7_read 271 = .ok (.istore_n 2, 1) := by decide +kernel
theorem dX7_read_272 : decode cX7_read 272 = .ok (.bipush 6, 2) := by decide +kernel
theorem dX7_read_274 : decode cX7_read 274 = .ok (.istore 8, 2) := by decide +kernel
theorem dX7_read_276 : decode cX7_read 276 = .ok (.iload 8, 2) := by decide +kernel
theorem dX7_read_278 : decode cX7_read 278 = .ok (.ifCond .ge 6, 3) := by decide +kernel
theorem dX7_read_281 : decode cX7_read 281 = .ok (.iload 6, 2) := by decide +kernel
theorem dX7_read_283 : decode cX7_read 283 = .ok (.ireturn, 1) := by decide +kernel
theorem dX7_read_284 : decode cX7_read 284 = .ok (.iload 8, 2) := by decide +kernel
theorem dX7_read_286 : decode cX7_read 286 = .ok (.bipush 6, 2) := by decide +kernel
theorem dX7_read_288 : decode cX7_read 288 = .ok (.if_icmp .ne 12, 3) := by decide +kernel
theorem dX7_read_291 : decode cX7_read 291 = .ok (.iload_n 2, 1) := by decide +kernel
theorem dX7_read_292 : decode cX7_read 292 = .ok (.ifCond .ge 8, 3) := by decide +kernel
theorem dX7_read_295 : decode cX7_read 295 = .ok (.bipush 7, 2) := by decide +kernel
theorem dX7_read_297 : decode cX7_read 297 = .ok (.goto 5, 3) := by decide +kernel
theorem dX7_read_300 : decode cX7_read 300 = .ok (.iload 8, 2) := by decide +kernel
theorem dX7_read_302 : decode cX7_read 302 = .ok (.istore_n 1, 1) := by decide +kernel
theorem dX7_read_303 : decode cX7_read 303 = .ok (.iinc 6 1, 3) := by decide +kernel
theorem dX7_read_306 : decode cX7_read 306 = .ok (.goto (-286), 3) := by decide +kernel
theorem dX7_read_309 : decode cX7_read 309 = .ok (.iload_n 1, 1) := by decide +kernel
theorem dX7_read_310 : decode cX7_read 310 = .ok (.bipush 7, 2) := by decide +kernel
theorem dX7_read_312 : decode cX7_read 312 = .ok (.if_icmp .ne 7, 3) := by decide +kernel
theorem dX7_read_315 : decode cX7_read 315 = .ok (.iconst (-1), 1) := by decide +kernel
theorem dX7_read_316 : decode cX7_read 316 = .ok (.goto 7, 3) := by decide +kernel
theorem dX7_read_319 : decode cX7_read 319 = .ok (.aload_n 0, 1) := by decide +kernel
theorem dX7_read_320 : decode cX7_read 320 = .ok (.getfield 50, 3) := by decide +kernel
theorem dX7_read_323 : decode cX7_read 323 = .ok (.ireturn, 1) := by decide +kernel
theorem dX7_bound_0 : decode cX7_bound 0 = .ok (.iconst 0, 1) := by decide +kernel
theorem dX7_bound_1 : decode cX7_bound 1 = .ok (.istore_n 2, 1) := by decide +kernel
theorem dX7_bound_2 : decode cX7_bound 2 = .ok (.aload_n 0, 1) := by decide +kernel
theorem dX7_bound_3 : decode cX7_bound 3 = .ok (.getfield 23, 3) := by decide +kernel
theorem dX7_bound_6 : decode cX7_bound 6 = .ok (.iload_n 1, 1) := by decide +kernel
theorem dX7_bound_7 : decode cX7_bound 7 = .ok (.iaload, 1) := by decide +kernel
theorem dX7_bound_8 : decode cX7_bound 8 = .ok (.istore_n 3, 1) := by decide +kernel
theorem dX7_bound_9 : decode cX7_bound 9 = .ok (.iload_n 3, 1) := by decide +kernel
theorem dX7_bound_10 : decode cX7_bound 10 = .ok (.ifCond .lt 60, 3) := by decide +kernel
theorem dX7_bound_13 : decode cX7_bound 13 = .ok (.aload_n 0, 1) := by decide +kernel
theorem dX7_bound_14 : decode cX7_bound 14 = .ok (.getfield 13, 3) := by decide +kernel
theorem dX7_bound_17 : decode cX7_bound 17 = .ok (.iload_n 3, 1) := by decide +kernel
theorem dX7_bound_18 : decode cX7_bound 18 = .ok (.iaload, 1) := by decide +kernel
theorem dX7_bound_19 : decode cX7_bound 19 = .ok (.iconst 2, 1) := by decide +kernel
theorem dX7_bound_20 : decode cX7_bound 20 = .ok (.if_icmp .ne 20, 3) := by decide +kernel
theorem dX7_bound_23 : decode cX7_bound 23 = .ok (.aload_n 0, 1) := by decide +kernel
theorem dX7_bound_24 : decode cX7_bound 24 = .ok (.getfield 17, 3) := by decide +kernel
theorem dX7_bound_27 : decode cX7_bound 27 = .ok (.iload_n 3, 1) := by decide +kernel
theorem dX7_bound_28 : decode cX7_bound 28 = .ok (.iaload, 1) := by decide +kernel
theorem dX7_bound_29 : decode cX7_bound 29 = .ok (.aload_n 0, 1) := by decide +kernel
theorem dX7_bound_30 : decode cX7_bound 30 = .ok (.getfield 17, 3) := by decide +kernel
theorem dX7_bound_33 : decode cX7_bound 33 = .ok (.iload_n 1, 1) := by decide +kernel
theorem dX7_bound_34 : decode cX7_bound 34 = .ok (.iaload, 1) := by decide +kernel
theorem dX7_bound_35 : decode cX7_bound 35 = .ok (.if_icmp .ne 5, 3) := by decide +kernel
theorem dX7_bound_38 : decode cX7_bound 38 = .ok (.iload_n 2, 1) := by decide +kernel
theorem dX7_bound_39 : decode cX7_bound 39 = .ok (.ireturn, 1) := by decide +kernel
theorem dX7_bound_40 : decode cX7_bound 40 = .ok (.iload_n 2, 1) := by decide +kernel
theorem dX7_bound_41 : decode cX7_bound 41 = .ok (.ifCond .ne 13, 3) := by decide +kernel
theorem dX7_bound_44 : decode cX7_bound 44 = .ok (.aload_n 0, 1) := by decide +kernel
theorem dX7_bound_45 : decode cX7_bound 45 = .ok (.getfield 13, 3) := by decide +kernel
theorem dX7_bound_48 : decode cX7_bound 48 = .ok (.iload_n 3, 1) := by decide +kernel
theorem dX7_bound_49 : decode cX7_bound 49 = .ok (.iaload, 1) := by decide +kernel
theorem dX7_bound_50 : decode cX7_bound 50 = .ok (.iconst 3, 1) := by decide +kernel
theorem dX7_bound_51 : decode cX7_bound 51 = .ok (.if_icmp .ne 7, 3) := by decide +kernel
theorem dX7_bound_54 : decode cX7_bound 54 = .ok (.iconst 1, 1) := by decide +kernel
theorem dX7_bound_55 : decode cX7_bound 55 = .ok (.goto 4, 3) := by decide +kernel
theorem dX7_bound_58 : decode cX7_bound 58 = .ok (.iconst 0, 1) := by decide +kernel
theorem dX7_bound_59 : decode cX7_bound 59 = .ok (.istore_n 2, 1) := by decide +kernel
theorem dX7_bound_60 : decode cX7_bound 60 = .ok (.aload_n 0, 1) := by decide +kernel
theorem dX7_bound_61 : decode cX7_bound 61 = .ok (.getfield 23, 3) := by decide +kernel
theorem dX7_bound_64 : decode cX7_bound 64 = .ok (.iload_n 3, 1) := by decide +kernel
theorem dX7_bound_65 : decode cX7_bound 65 = .ok (.iaload, 1) := by decide +kernel
theorem dX7_bound_66 : decode cX7_bound 66 = .ok (.istore_n 3, 1) := by decide +kernel
theorem dX7_bound_67 : decode cX7_bound 67 = .ok (.goto (-58), 3) := by decide +kernel
theorem dX7_bound_70 : decode cX7_bound 70 = .ok (.iconst 0, 1) := by decide +kernel
theorem dX7_bound_71 : decode cX7_bound 71 = .ok (.ireturn, 1) := by decide +kernel
theorem dX7_single_0 : decode cX7_single 0 = .ok (.aload_n 0, 1) := by decide +kernel
theorem dX7_single_1 : decode cX7_single 1 = .ok (.getfield 23, 3) := by decide +kernel
theorem dX7_single_4 : decode cX7_single 4 = .ok (.iload_n 1, 1) := by decide +kernel
theorem dX7_single_5 : decode cX7_single 5 = .ok (.iaload, 1) := by decide +kernel
theorem dX7_single_6 : decode cX7_single 6 = .ok (.istore_n 2, 1) := by decide +kernel
theorem dX7_single_7 : decode cX7_single 7 = .ok (.iload_n 2, 1) := by decide +kernel
theorem dX7_single_8 : decode cX7_single 8 = .ok (.ifCond .lt 40, 3) := by decide +kernel
theorem dX7_single_11 : decode cX7_single 11 = .ok (.aload_n 0, 1) := by decide +kernel
theorem dX7_single_12 : decode cX7_single 12 = .ok (.getfield 13, 3) := by decide +kernel
theorem dX7_single_15 : decode cX7_single 15 = .ok (.iload_n 2, 1) := by decide +kernel
theorem dX7_single_16 : decode cX7_single 16 = .ok (.iaload, 1) := by decide +kernel
theorem dX7_single_17 : decode cX7_single 17 = .ok (.iconst 2, 1) := by decide +kernel
theorem dX7_single_18 : decode cX7_single 18 = .ok (.if_icmp .ne 20, 3) := by decide +kernel
theorem dX7_single_21 : decode cX7_single 21 = .ok (.aload_n 0, 1) := by decide +kernel
theorem dX7_single_22 : decode cX7_single 22 = .ok (.getfield 17, 3) := by decide +kernel
theorem dX7_single_25 : decode cX7_single 25 = .ok (.iload_n 2, 1) := by decide +kernel
theorem dX7_single_26 : decode cX7_single 26 = .ok (.iaload, 1) := by decide +kernel
theorem dX7_single_27 : decode cX7_single 27 = .ok (.aload_n 0, 1) := by decide +kernel
theorem dX7_single_28 : decode cX7_single 28 = .ok (.getfield 17, 3) := by decide +kernel
theorem dX7_single_31 : decode cX7_single 31 = .ok (.iload_n 1, 1) := by decide +kernel
theorem dX7_single_32 : decode cX7_single 32 = .ok (.iaload, 1) := by decide +kernel
theorem dX7_single_33 : decode cX7_single 33 = .ok (.if_icmp .ne 5, 3) := by decide +kernel
theorem dX7_single_36 : decode cX7_single 36 = .ok (.iconst 0, 1) := by decide +kernel
theorem dX7_single_37 : decode cX7_single 37 = .ok (.ireturn, 1) := by decide +kernel
theorem dX7_single_38 : decode cX7_single 38 = .ok (.aload_n 0, 1) := by decide +kernel
theorem dX7_single_39 : decode cX7_single 39 = .ok (.getfield 23, 3) := by decide +kernel
theorem dX7_single_42 : decode cX7_single 42 = .ok (.iload_n 2, 1) := by decide +kernel
theorem dX7_single_43 : decode cX7_single 43 = .ok (.iaload, 1) := by decide +kernel
theorem dX7_single_44 : decode cX7_single 44 = .ok (.istore_n 2, 1) := by decide +kernel
theorem dX7_single_45 : decode cX7_single 45 = .ok (.goto (-38), 3) := by decide +kernel
theorem dX7_single_48 : decode cX7_single 48 = .ok (.iconst 1, 1) := by decide +kernel
theorem dX7_single_49 : decode cX7_single 49 = .ok (.ireturn, 1) := by decide +kernel
theorem dX7_apart_0 : decode cX7_apart 0 = .ok (.iconst 0, 1) := by decide +kernel
theorem dX7_apart_1 : decode cX7_apart 1 = .ok (.istore_n 2, 1) := by decide +kernel
theorem dX7_apart_2 : decode cX7_apart 2 = .ok (.iload_n 2, 1) := by decide +kernel
theorem dX7_apart_3 : decode cX7_apart 3 = .ok (.aload_n 0, 1) := by decide +kernel
theorem dX7_apart_4 : decode cX7_apart 4 = .ok (.getfield 54, 3) := by decide +kernel
theorem dX7_apart_7 : decode cX7_apart 7 = .ok (.if_icmp .ge 46, 3) := by decide +kernel
theorem dX7_apart_10 : decode cX7_apart 10 = .ok (.iload_n 2, 1) := by decide +kernel
theorem dX7_apart_11 : decode cX7_apart 11 = .ok (.iload_n 1, 1) := by decide +kernel
theorem dX7_apart_12 : decode cX7_apart 12 = .ok (.if_icmp .eq 35, 3) := by decide +kernel
theorem dX7_apart_15 : decode cX7_apart 15 = .ok (.aload_n 0, 1) := by decide +kernel
theorem dX7_apart_16 : decode cX7_apart 16 = .ok (.getfield 23, 3) := by decide +kernel
theorem dX7_apart_19 : decode cX7_apart 19 = .ok (.iload_n 2, 1) := by decide +kernel
theorem dX7_apart_20 : decode cX7_apart 20 = .ok (.iaload, 1) := by decide +kernel
theorem dX7_apart_21 : decode cX7_apart 21 = .ok (.aload_n 0, 1) := by decide +kernel
theorem dX7_apart_22 : decode cX7_apart 22 = .ok (.getfield 23, 3) := by decide +kernel
theorem dX7_apart_25 : decode cX7_apart 25 = .ok (.iload_n 1, 1) := by decide +kernel
theorem dX7_apart_26 : decode cX7_apart 26 = .ok (.iaload, 1) := by decide +kernel
theorem dX7_apart_27 : decode cX7_apart 27 = .ok (.if_icmp .ne 20, 3) := by decide +kernel
theorem dX7_apart_30 : decode cX7_apart 30 = .ok (.aload_n 0, 1) := by decide +kernel
theorem dX7_apart_31 : decode cX7_apart 31 = .ok (.getfield 26, 3) := by decide +kernel
theorem dX7_apart_34 : decode cX7_apart 34 = .ok (.iload_n 2, 1) := by decide +kernel
theorem dX7_apart_35 : decode cX7_apart 35 = .ok (.iaload, 1) := by decide +kernel
theorem dX7_apart_36 : decode cX7_apart 36 = .ok (.aload_n 0, 1) := by decide +kernel
theorem dX7_apart_37 : decode cX7_apart 37 = .ok (.getfield 26, 3) := by decide +kernel
theorem dX7_apart_40 : decode cX7_apart 40 = .ok (.iload_n 1, 1) := by decide +kernel
theorem dX7_apart_41 : decode cX7_apart 41 = .ok (.iaload, 1) := by decide +kernel
theorem dX7_apart_42 : decode cX7_apart 42 = .ok (.if_icmp .ne 5, 3) := by decide +kernel
theorem dX7_apart_45 : decode cX7_apart 45 = .ok (.iconst 0, 1) := by decide +kernel
theorem dX7_apart_46 : decode cX7_apart 46 = .ok (.ireturn, 1) := by decide +kernel
theorem dX7_apart_47 : decode cX7_apart 47 = .ok (.iinc 2 1, 3) := by decide +kernel
theorem dX7_apart_50 : decode cX7_apart 50 = .ok (.goto (-48), 3) := by decide +kernel
theorem dX7_apart_53 : decode cX7_apart 53 = .ok (.iconst 1, 1) := by decide +kernel
theorem dX7_apart_54 : decode cX7_apart 54 = .ok (.ireturn, 1) := by decide +kernel
theorem dX7_sound_0 : decode cX7_sound 0 = .ok (.iconst 0, 1) := by decide +kernel
theorem dX7_sound_1 : decode cX7_sound 1 = .ok (.istore_n 1, 1) := by decide +kernel
theorem dX7_sound_2 : decode cX7_sound 2 = .ok (.iload_n 1, 1) := by decide +kernel
theorem dX7_sound_3 : decode cX7_sound 3 = .ok (.aload_n 0, 1) := by decide +kernel
theorem dX7_sound_4 : decode cX7_sound 4 = .ok (.getfield 54, 3) := by decide +kernel
theorem dX7_sound_7 : decode cX7_sound 7 = .ok (.if_icmp .ge 106, 3) := by decide +kernel
theorem dX7_sound_10 : decode cX7_sound 10 = .ok (.aload_n 0, 1) := by decide +kernel
theorem dX7_sound_11 : decode cX7_sound 11 = .ok (.getfield 13, 3) := by decide +kernel
theorem dX7_sound_14 : decode cX7_sound 14 = .ok (.iload_n 1, 1) := by decide +kernel
theorem dX7_sound_15 : decode cX7_sound 15 = .ok (.iaload, 1) := by decide +kernel
theorem dX7_sound_16 : decode cX7_sound 16 = .ok (.iconst 1, 1) := by decide +kernel
theorem dX7_sound_17 : decode cX7_sound 17 = .ok (.if_icmp .ne 11, 3) := by decide +kernel
theorem dX7_sound_20 : decode cX7_sound 20 = .ok (.aload_n 0, 1) := by decide +kernel
theorem dX7_sound_21 : decode cX7_sound 21 = .ok (.iload_n 1, 1) := by decide +kernel
theorem dX7_sound_22 : decode cX7_sound 22 = .ok (.invokevirtual 78, 3) := by decide +kernel
theorem dX7_sound_25 : decode cX7_sound 25 = .ok (.ifCond .eq 46, 3) := by decide +kernel
theorem dX7_sound_28 : decode cX7_sound 28 = .ok (.aload_n 0, 1) := by decide +kernel
theorem dX7_sound_29 : decode cX7_sound 29 = .ok (.getfield 13, 3) := by decide +kernel
theorem dX7_sound_32 : decode cX7_sound 32 = .ok (.iload_n 1, 1) := by decide +kernel
theorem dX7_sound_33 : decode cX7_sound 33 = .ok (.iaload, 1) := by decide +kernel
theorem dX7_sound_34 : decode cX7_sound 34 = .ok (.iconst 2, 1) := by decide +kernel
theorem dX7_sound_35 : decode cX7_sound 35 = .ok (.if_icmp .ne 11, 3) := by decide +kernel
theorem dX7_sound_38 : decode cX7_sound 38 = .ok (.aload_n 0, 1) := by decide +kernel
theorem dX7_sound_39 : decode cX7_sound 39 = .ok (.iload_n 1, 1) := by decide +kernel
theorem dX7_sound_40 : decode cX7_sound 40 = .ok (.invokevirtual 81, 3) := by decide +kernel
theorem dX7_sound_43 : decode cX7_sound 43 = .ok (.ifCond .eq 28, 3) := by decide +kernel
theorem dX7_sound_46 : decode cX7_sound 46 = .ok (.aload_n 0, 1) := by decide +kernel
theorem dX7_sound_47 : decode cX7_sound 47 = .ok (.getfield 13, 3) := by decide +kernel
theorem dX7_sound_50 : decode cX7_sound 50 = .ok (.iload_n 1, 1) := by decide +kernel
theorem dX7_sound_51 : decode cX7_sound 51 = .ok (.iaload, 1) := by decide +kernel
theorem dX7_sound_52 : decode cX7_sound 52 = .ok (.iconst 3, 1) := by decide +kernel
theorem dX7_sound_53 : decode cX7_sound 53 = .ok (.if_icmp .ne 20, 3) := by decide +kernel
theorem dX7_sound_56 : decode cX7_sound 56 = .ok (.aload_n 0, 1) := by decide +kernel
theorem dX7_sound_57 : decode cX7_sound 57 = .ok (.getfield 17, 3) := by decide +kernel
theorem dX7_sound_60 : decode cX7_sound 60 = .ok (.iload_n 1, 1) := by decide +kernel
theorem dX7_sound_61 : decode cX7_sound 61 = .ok (.iaload, 1) := by decide +kernel
theorem dX7_sound_62 : decode cX7_sound 62 = .ok (.aload_n 0, 1) := by decide +kernel
theorem dX7_sound_63 : decode cX7_sound 63 = .ok (.getfield 20, 3) := by decide +kernel
theorem dX7_sound_66 : decode cX7_sound 66 = .ok (.iload_n 1, 1) := by decide +kernel
theorem dX7_sound_67 : decode cX7_sound 67 = .ok (.iaload, 1) := by decide +kernel
theorem dX7_sound_68 : decode cX7_sound 68 = .ok (.if_icmp .ne 5, 3) := by decide +kernel
theorem dX7_sound_71 : decode cX7_sound 71 = .ok (.iconst 0, 1) := by decide +kernel
theorem dX7_sound_72 : decode cX7_sound 72 = .ok (.ireturn, 1) := by decide +kernel
theorem dX7_sound_73 : decode cX7_sound 73 = .ok (.aload_n 0, 1) := by decide +kernel
theorem dX7_sound_74 : decode cX7_sound 74 = .ok (.getfield 23, 3) := by decide +kernel
theorem dX7_sound_77 : decode cX7_sound 77 = .ok (.iload_n 1, 1) := by decide +kernel
theorem dX7_sound_78 : decode cX7_sound 78 = .ok (.iaload, 1) := by decide +kernel
theorem dX7_sound_79 : decode cX7_sound 79 = .ok (.ifCond .lt 28, 3) := by decide +kernel
theorem dX7_sound_82 : decode cX7_sound 82 = .ok (.aload_n 0, 1) := by decide +kernel
theorem dX7_sound_83 : decode cX7_sound 83 = .ok (.getfield 13, 3) := by decide +kernel
theorem dX7_sound_86 : decode cX7_sound 86 = .ok (.aload_n 0, 1) := by decide +kernel
theorem dX7_sound_87 : decode cX7_sound 87 = .ok (.getfield 23, 3) := by decide +kernel
theorem dX7_sound_90 : decode cX7_sound 90 = .ok (.iload_n 1, 1) := by decide +kernel
theorem dX7_sound_91 : decode cX7_sound 91 = .ok (.iaload, 1) := by decide +kernel
theorem dX7_sound_92 : decode cX7_sound 92 = .ok (.iaload, 1) := by decide +kernel
theorem dX7_sound_93 : decode cX7_sound 93 = .ok (.iconst 3, 1) := by decide +kernel
theorem dX7_sound_94 : decode cX7_sound 94 = .ok (.if_icmp .ne 13, 3) := by decide +kernel
theorem dX7_sound_97 : decode cX7_sound 97 = .ok (.aload_n 0, 1) := by decide +kernel
theorem dX7_sound_98 : decode cX7_sound 98 = .ok (.iload_n 1, 1) := by decide +kernel
theorem dX7_sound_99 : decode cX7_sound 99 = .ok (.invokevirtual 84, 3) := by decide +kernel
theorem dX7_sound_102 : decode cX7_sound 102 = .ok (.ifCond .ne 5, 3) := by decide +kernel
theorem dX7_sound_105 : decode cX7_sound 105 = .ok (.iconst 0, 1) := by decide +kernel
theorem dX7_sound_106 : decode cX7_sound 106 = .ok (.ireturn, 1) := by decide +kernel
theorem dX7_sound_107 : decode cX7_sound 107 = .ok (.iinc 1 1, 3) := by decide +kernel
theorem dX7_sound_110 : decode cX7_sound 110 = .ok (.goto (-108), 3) := by decide +kernel
theorem dX7_sound_113 : decode cX7_sound 113 = .ok (.iconst 1, 1) := by decide +kernel
theorem dX7_sound_114 : decode cX7_sound 114 = .ok (.ireturn, 1) := by decide +kernel
theorem dX7_put_0 : decode cX7_put 0 = .ok (.aload_n 0, 1) := by decide +kernel
theorem dX7_put_1 : decode cX7_put 1 = .ok (.getfield 29, 3) := by decide +kernel
theorem dX7_put_4 : decode cX7_put 4 = .ok (.bipush 60, 2) := by decide +kernel
theorem dX7_put_6 : decode cX7_put 6 = .ok (.iload_n 1, 1) := by decide +kernel
theorem dX7_put_7 : decode cX7_put 7 = .ok (.imul, 1) := by decide +kernel
theorem dX7_put_8 : decode cX7_put 8 = .ok (.aload_n 0, 1) := by decide +kernel
theorem dX7_put_9 : decode cX7_put 9 = .ok (.getfield 32, 3) := by decide +kernel
theorem dX7_put_12 : decode cX7_put 12 = .ok (.iload_n 1, 1) := by decide +kernel
theorem dX7_put_13 : decode cX7_put 13 = .ok (.iaload, 1) := by decide +kernel
theorem dX7_put_14 : decode cX7_put 14 = .ok (.iadd, 1) := by decide +kernel
theorem dX7_put_15 : decode cX7_put 15 = .ok (.iload_n 2, 1) := by decide +kernel
theorem dX7_put_16 : decode cX7_put 16 = .ok (.i2c, 1) := by decide +kernel
theorem dX7_put_17 : decode cX7_put 17 = .ok (.castore, 1) := by decide +kernel
theorem dX7_put_18 : decode cX7_put 18 = .ok (.aload_n 0, 1) := by decide +kernel
theorem dX7_put_19 : decode cX7_put 19 = .ok (.getfield 32, 3) := by decide +kernel
theorem dX7_put_22 : decode cX7_put 22 = .ok (.iload_n 1, 1) := by decide +kernel
theorem dX7_put_23 : decode cX7_put 23 = .ok (.dup2, 1) := by decide +kernel
theorem dX7_put_24 : decode cX7_put 24 = .ok (.iaload, 1) := by decide +kernel
theorem dX7_put_25 : decode cX7_put 25 = .ok (.iconst 1, 1) := by decide +kernel
theorem dX7_put_26 : decode cX7_put 26 = .ok (.iadd, 1) := by decide +kernel
theorem dX7_put_27 : decode cX7_put 27 = .ok (.iastore, 1) := by decide +kernel
theorem dX7_put_28 : decode cX7_put 28 = .ok (.return_, 1) := by decide +kernel
theorem dX7_copy_0 : decode cX7_copy 0 = .ok (.iconst 0, 1) := by decide +kernel
theorem dX7_copy_1 : decode cX7_copy 1 = .ok (.istore_n 3, 1) := by decide +kernel
theorem dX7_copy_2 : decode cX7_copy 2 = .ok (.iload_n 3, 1) := by decide +kernel
theorem dX7_copy_3 : decode cX7_copy 3 = .ok (.aload_n 0, 1) := by decide +kernel
theorem dX7_copy_4 : decode cX7_copy 4 = .ok (.getfield 32, 3) := by decide +kernel
theorem dX7_copy_7 : decode cX7_copy 7 = .ok (.iload_n 1, 1) := by decide +kernel
theorem dX7_copy_8 : decode cX7_copy 8 = .ok (.iaload, 1) := by decide +kernel
theorem dX7_copy_9 : decode cX7_copy 9 = .ok (.if_icmp .ge 25, 3) := by decide +kernel
theorem dX7_copy_12 : decode cX7_copy 12 = .ok (.aload_n 0, 1) := by decide +kernel
theorem dX7_copy_13 : decode cX7_copy 13 = .ok (.iload_n 2, 1) := by decide +kernel
theorem dX7_copy_14 : decode cX7_copy 14 = .ok (.aload_n 0, 1) := by decide +kernel
theorem dX7_copy_15 : decode cX7_copy 15 = .ok (.getfield 29, 3) := by decide +kernel
theorem dX7_copy_18 : decode cX7_copy 18 = .ok (.bipush 60, 2) := by decide +kernel
theorem dX7_copy_20 : decode cX7_copy 20 = .ok (.iload_n 1, 1) := by decide +kernel
theorem dX7_copy_21 : decode cX7_copy 21 = .ok (.imul, 1) := by decide +kernel
theorem dX7_copy_22 : decode cX7_copy 22 = .ok (.iload_n 3, 1) := by decide +kernel
theorem dX7_copy_23 : decode cX7_copy 23 = .ok (.iadd, 1) := by decide +kernel
theorem dX7_copy_24 : decode cX7_copy 24 = .ok (.caload, 1) := by decide +kernel
theorem dX7_copy_25 : decode cX7_copy 25 = .ok (.invokevirtual 87, 3) := by decide +kernel
theorem dX7_copy_28 : decode cX7_copy 28 = .ok (.iinc 3 1, 3) := by decide +kernel
theorem dX7_copy_31 : decode cX7_copy 31 = .ok (.goto (-29), 3) := by decide +kernel
theorem dX7_copy_34 : decode cX7_copy 34 = .ok (.return_, 1) := by decide +kernel
theorem dX7_same_0 : decode cX7_same 0 = .ok (.aload_n 0, 1) := by decide +kernel
theorem dX7_same_1 : decode cX7_same 1 = .ok (.getfield 32, 3) := by decide +kernel
theorem dX7_same_4 : decode cX7_same 4 = .ok (.iload_n 1, 1) := by decide +kernel
theorem dX7_same_5 : decode cX7_same 5 = .ok (.iaload, 1) := by decide +kernel
theorem dX7_same_6 : decode cX7_same 6 = .ok (.aload_n 0, 1) := by decide +kernel
theorem dX7_same_7 : decode cX7_same 7 = .ok (.getfield 32, 3) := by decide +kernel
theorem dX7_same_10 : decode cX7_same 10 = .ok (.iload_n 2, 1) := by decide +kernel
theorem dX7_same_11 : decode cX7_same 11 = .ok (.iaload, 1) := by decide +kernel
theorem dX7_same_12 : decode cX7_same 12 = .ok (.if_icmp .ne 7, 3) := by decide +kernel
theorem dX7_same_15 : decode cX7_same 15 = .ok (.iconst 1, 1) := by decide +kernel
theorem dX7_same_16 : decode cX7_same 16 = .ok (.goto 4, 3) := by decide +kernel
theorem dX7_same_19 : decode cX7_same 19 = .ok (.iconst 0, 1) := by decide +kernel
theorem dX7_same_20 : decode cX7_same 20 = .ok (.istore_n 3, 1) := by decide +kernel
theorem dX7_same_21 : decode cX7_same 21 = .ok (.iconst 0, 1) := by decide +kernel
theorem dX7_same_22 : decode cX7_same 22 = .ok (.istore 4, 2) := by decide +kernel
theorem dX7_same_24 : decode cX7_same 24 = .ok (.iload 4, 2) := by decide +kernel
theorem dX7_same_26 : decode cX7_same 26 = .ok (.aload_n 0, 1) := by decide +kernel
theorem dX7_same_27 : decode cX7_same 27 = .ok (.getfield 32, 3) := by decide +kernel
theorem dX7_same_30 : decode cX7_same 30 = .ok (.iload_n 1, 1) := by decide +kernel
theorem dX7_same_31 : decode cX7_same 31 = .ok (.iaload, 1) := by decide +kernel
theorem dX7_same_32 : decode cX7_same 32 = .ok (.if_icmp .ge 46, 3) := by decide +kernel
theorem dX7_same_35 : decode cX7_same 35 = .ok (.iload_n 3, 1) := by decide +kernel
theorem dX7_same_36 : decode cX7_same 36 = .ok (.ifCond .eq 42, 3) := by decide +kernel
theorem dX7_same_39 : decode cX7_same 39 = .ok (.aload_n 0, 1) := by decide +kernel
theorem dX7_same_40 : decode cX7_same 40 = .ok (.getfield 29, 3) := by decide +kernel
theorem dX7_same_43 : decode cX7_same 43 = .ok (.bipush 60, 2) := by decide +kernel
theorem dX7_same_45 : decode cX7_same 45 = .ok (.iload_n 1, 1) := by decide +kernel
theorem dX7_same_46 : decode cX7_same 46 = .ok (.imul, 1) := by decide +kernel
theorem dX7_same_47 : decode cX7_same 47 = .ok (.iload 4, 2) := by decide +kernel
theorem dX7_same_49 : decode cX7_same 49 = .ok (.iadd, 1) := by decide +kernel
theorem dX7_same_50 : decode cX7_same 50 = .ok (.caload, 1) := by decide +kernel
theorem dX7_same_51 : decode cX7_same 51 = .ok (.aload_n 0, 1) := by decide +kernel
theorem dX7_same_52 : decode cX7_same 52 = .ok (.getfield 29, 3) := by decide +kernel
theorem dX7_same_55 : decode cX7_same 55 = .ok (.bipush 60, 2) := by decide +kernel
theorem dX7_same_57 : decode cX7_same 57 = .ok (.iload_n 2, 1) := by decide +kernel
theorem dX7_same_58 : decode cX7_same 58 = .ok (.imul, 1) := by decide +kernel
theorem dX7_same_59 : decode cX7_same 59 = .ok (.iload 4, 2) := by decide +kernel
theorem dX7_same_61 : decode cX7_same 61 = .ok (.iadd, 1) := by decide +kernel
theorem dX7_same_62 : decode cX7_same 62 = .ok (.caload, 1) := by decide +kernel
theorem dX7_same_63 : decode cX7_same 63 = .ok (.if_icmp .ne 7, 3) := by decide +kernel
theorem dX7_same_66 : decode cX7_same 66 = .ok (.iconst 1, 1) := by decide +kernel
theorem dX7_same_67 : decode cX7_same 67 = .ok (.goto 4, 3) := by decide +kernel
theorem dX7_same_70 : decode cX7_same 70 = .ok (.iconst 0, 1) := by decide +kernel
theorem dX7_same_71 : decode cX7_same 71 = .ok (.istore_n 3, 1) := by decide +kernel
theorem dX7_same_72 : decode cX7_same 72 = .ok (.iinc 4 1, 3) := by decide +kernel
theorem dX7_same_75 : decode cX7_same 75 = .ok (.goto (-51), 3) := by decide +kernel
theorem dX7_same_78 : decode cX7_same 78 = .ok (.iload_n 3, 1) := by decide +kernel
theorem dX7_same_79 : decode cX7_same 79 = .ok (.ireturn, 1) := by decide +kernel
theorem dX7_loopPart_0 : decode cX7_loopPart 0 = .ok (.iconst 4, 1) := by decide +kernel
theorem dX7_loopPart_1 : decode cX7_loopPart 1 = .ok (.iload_n 1, 1) := by decide +kernel
theorem dX7_loopPart_2 : decode cX7_loopPart 2 = .ok (.imul, 1) := by decide +kernel
theorem dX7_loopPart_3 : decode cX7_loopPart 3 = .ok (.iload_n 2, 1) := by decide +kernel
theorem dX7_loopPart_4 : decode cX7_loopPart 4 = .ok (.iadd, 1) := by decide +kernel
theorem dX7_loopPart_5 : decode cX7_loopPart 5 = .ok (.istore_n 3, 1) := by decide +kernel
theorem dX7_loopPart_6 : decode cX7_loopPart 6 = .ok (.iconst 4, 1) := by decide +kernel
theorem dX7_loopPart_7 : decode cX7_loopPart 7 = .ok (.iload_n 1, 1) := by decide +kernel
theorem dX7_loopPart_8 : decode cX7_loopPart 8 = .ok (.iconst 1, 1) := by decide +kernel
theorem dX7_loopPart_9 : decode cX7_loopPart 9 = .ok (.iadd, 1) := by decide +kernel
theorem dX7_loopPart_10 : decode cX7_loopPart 10 = .ok (.imul, 1) := by decide +kernel
theorem dX7_loopPart_11 : decode cX7_loopPart 11 = .ok (.iload_n 2, 1) := by decide +kernel
theorem dX7_loopPart_12 : decode cX7_loopPart 12 = .ok (.iadd, 1) := by decide +kernel
theorem dX7_loopPart_13 : decode cX7_loopPart 13 = .ok (.istore 4, 2) := by decide +kernel
theorem dX7_loopPart_15 : decode cX7_loopPart 15 = .ok (.iconst 0, 1) := by decide +kernel
theorem dX7_loopPart_16 : decode cX7_loopPart 16 = .ok (.istore 5, 2) := by decide +kernel
theorem dX7_loopPart_18 : decode cX7_loopPart 18 = .ok (.iconst 0, 1) := by decide +kernel
theorem dX7_loopPart_19 : decode cX7_loopPart 19 = .ok (.istore 6, 2) := by decide +kernel
theorem dX7_loopPart_21 : decode cX7_loopPart 21 = .ok (.iload 6, 2) := by decide +kernel
theorem dX7_loopPart_23 : decode cX7_loopPart 23 = .ok (.aload_n 0, 1) := by decide +kernel
theorem dX7_loopPart_24 : decode cX7_loopPart 24 = .ok (.getfield 32, 3) := by decide +kernel
theorem dX7_loopPart_27 : decode cX7_loopPart 27 = .ok (.iload 4, 2) := by decide +kernel
theorem dX7_loopPart_29 : decode cX7_loopPart 29 = .ok (.iaload, 1) := by decide +kernel
theorem dX7_loopPart_30 : decode cX7_loopPart 30 = .ok (.if_icmp .ge 43, 3) := by decide +kernel
theorem dX7_loopPart_33 : decode cX7_loopPart 33 = .ok (.iload 5, 2) := by decide +kernel
theorem dX7_loopPart_35 : decode cX7_loopPart 35 = .ok (.ifCond .ne 25, 3) := by decide +kernel
theorem dX7_loopPart_38 : decode cX7_loopPart 38 = .ok (.aload_n 0, 1) := by decide +kernel
theorem dX7_loopPart_39 : decode cX7_loopPart 39 = .ok (.getfield 29, 3) := by decide +kernel
theorem dX7_loopPart_42 : decode cX7_loopPart 42 = .ok (.bipush 60, 2) := by decide +kernel
theorem dX7_loopPart_44 : decode cX7_loopPart 44 = .ok (.iload 4, 2) := by decide +kernel
theorem dX7_loopPart_46 : decode cX7_loopPart 46 = .ok (.imul, 1) := by decide +kernel
theorem dX7_loopPart_47 : decode cX7_loopPart 47 = .ok (.iload 6, 2) := by decide +kernel
theorem dX7_loopPart_49 : decode cX7_loopPart 49 = .ok (.iadd, 1) := by decide +kernel
theorem dX7_loopPart_50 : decode cX7_loopPart 50 = .ok (.caload, 1) := by decide +kernel
theorem dX7_loopPart_51 : decode cX7_loopPart 51 = .ok (.aload_n 0, 1) := by decide +kernel
theorem dX7_loopPart_52 : decode cX7_loopPart 52 = .ok (.getfield 17, 3) := by decide +kernel
theorem dX7_loopPart_55 : decode cX7_loopPart 55 = .ok (.iload_n 1, 1) := by decide +kernel
theorem dX7_loopPart_56 : decode cX7_loopPart 56 = .ok (.iaload, 1) := by decide +kernel
theorem dX7_loopPart_57 : decode cX7_loopPart 57 = .ok (.if_icmp .ne 7, 3) := by decide +kernel
theorem dX7_loopPart_60 : decode cX7_loopPart 60 = .ok (.iconst 1, 1) := by decide +kernel
theorem dX7_loopPart_61 : decode cX7_loopPart 61 = .ok (.goto 4, 3) := by decide +kernel
theorem dX7_loopPart_64 : decode cX7_loopPart 64 = .ok (.iconst 0, 1) := by decide +kernel
theorem dX7_loopPart_65 : decode cX7_loopPart 65 = .ok (.istore 5, 2) := by decide +kernel
theorem dX7_loopPart_67 : decode cX7_loopPart 67 = .ok (.iinc 6 1, 3) := by decide +kernel
theorem dX7_loopPart_70 : decode cX7_loopPart 70 = .ok (.goto (-49), 3) := by decide +kernel
theorem dX7_loopPart_73 : decode cX7_loopPart 73 = .ok (.aload_n 0, 1) := by decide +kernel
theorem dX7_loopPart_74 : decode cX7_loopPart 74 = .ok (.getfield 32, 3) := by decide +kernel
theorem dX7_loopPart_77 : decode cX7_loopPart 77 = .ok (.iload 4, 2) := by decide +kernel
theorem dX7_loopPart_79 : decode cX7_loopPart 79 = .ok (.iaload, 1) := by decide +kernel
theorem dX7_loopPart_80 : decode cX7_loopPart 80 = .ok (.ifCond .ge 13, 3) := by decide +kernel
theorem dX7_loopPart_83 : decode cX7_loopPart 83 = .ok (.aload_n 0, 1) := by decide +kernel
theorem dX7_loopPart_84 : decode cX7_loopPart 84 = .ok (.getfield 32, 3) := by decide +kernel
theorem dX7_loopPart_87 : decode cX7_loopPart 87 = .ok (.iload_n 3, 1) := by decide +kernel
theorem dX7_loopPart_88 : decode cX7_loopPart 88 = .ok (.iconst (-1), 1) := by decide +kernel
theorem dX7_loopPart_89 : decode cX7_loopPart 89 = .ok (.iastore, 1) := by decide +kernel
theorem dX7_loopPart_90 : decode cX7_loopPart 90 = .ok (.goto 66, 3) := by decide +kernel
theorem dX7_loopPart_93 : decode cX7_loopPart 93 = .ok (.iload 5, 2) := by decide +kernel
theorem dX7_loopPart_95 : decode cX7_loopPart 95 = .ok (.ifCond .eq 24, 3) := by decide +kernel
theorem dX7_loopPart_98 : decode cX7_loopPart 98 = .ok (.aload_n 0, 1) := by decide +kernel
theorem dX7_loopPart_99 : decode cX7_loopPart 99 = .ok (.getfield 32, 3) := by decide +kernel
theorem dX7_loopPart_102 : decode cX7_loopPart 102 = .ok (.iload 4, 2) := by decide +kernel
theorem dX7_loopPart_104 : decode cX7_loopPart 104 = .ok (.iaload, 1) := by decide +kernel
theorem dX7_loopPart_105 : decode cX7_loopPart 105 = .ok (.iconst 1, 1) := by decide +kernel
theorem dX7_loopPart_106 : decode cX7_loopPart 106 = .ok (.if_icmp .ne 13, 3) := by decide +kernel
theorem dX7_loopPart_109 : decode cX7_loopPart 109 = .ok (.aload_n 0, 1) := by decide +kernel
theorem dX7_loopPart_110 : decode cX7_loopPart 110 = .ok (.iload_n 3, 1) := by decide +kernel
theorem dX7_loopPart_111 : decode cX7_loopPart 111 = .ok (.bipush 101, 2) := by decide +kernel
theorem dX7_loopPart_113 : decode cX7_loopPart 113 = .ok (.invokevirtual 87, 3) := by decide +kernel
theorem dX7_loopPart_116 : decode cX7_loopPart 116 = .ok (.goto 40, 3) := by decide +kernel
theorem dX7_loopPart_119 : decode cX7_loopPart 119 = .ok (.iload 5, 2) := by decide +kernel
theorem dX7_loopPart_121 : decode cX7_loopPart 121 = .ok (.ifCond .eq 28, 3) := by decide +kernel
theorem dX7_loopPart_124 : decode cX7_loopPart 124 = .ok (.aload_n 0, 1) := by decide +kernel
theorem dX7_loopPart_125 : decode cX7_loopPart 125 = .ok (.iload_n 3, 1) := by decide +kernel
theorem dX7_loopPart_126 : decode cX7_loopPart 126 = .ok (.bipush 109, 2) := by decide +kernel
theorem dX7_loopPart_128 : decode cX7_loopPart 128 = .ok (.invokevirtual 87, 3) := by decide +kernel
theorem dX7_loopPart_131 : decode cX7_loopPart 131 = .ok (.aload_n 0, 1) := by decide +kernel
theorem dX7_loopPart_132 : decode cX7_loopPart 132 = .ok (.iload_n 3, 1) := by decide +kernel
theorem dX7_loopPart_133 : decode cX7_loopPart 133 = .ok (.aload_n 0, 1) := by decide +kernel
theorem dX7_loopPart_134 : decode cX7_loopPart 134 = .ok (.getfield 17, 3) := by decide +kernel
theorem dX7_loopPart_137 : decode cX7_loopPart 137 = .ok (.iload_n 1, 1) := by decide +kernel
theorem dX7_loopPart_138 : decode cX7_loopPart 138 = .ok (.iaload, 1) := by decide +kernel
theorem dX7_loopPart_139 : decode cX7_loopPart 139 = .ok (.invokevirtual 87, 3) := by decide +kernel
theorem dX7_loopPart_142 : decode cX7_loopPart 142 = .ok (.aload_n 0, 1) := by decide +kernel
theorem dX7_loopPart_143 : decode cX7_loopPart 143 = .ok (.iload_n 3, 1) := by decide +kernel
theorem dX7_loopPart_144 : decode cX7_loopPart 144 = .ok (.bipush 46, 2) := by decide +kernel
theorem dX7_loopPart_146 : decode cX7_loopPart 146 = .ok (.invokevirtual 87, 3) := by decide +kernel
theorem dX7_loopPart_149 : decode cX7_loopPart 149 = .ok (.aload_n 0, 1) := by decide +kernel
theorem dX7_loopPart_150 : decode cX7_loopPart 150 = .ok (.iload 4, 2) := by decide +kernel
theorem dX7_loopPart_152 : decode cX7_loopPart 152 = .ok (.iload_n 3, 1) := by decide +kernel
theorem dX7_loopPart_153 : decode cX7_loopPart 153 = .ok (.invokevirtual 91, 3) := by decide +kernel
theorem dX7_loopPart_156 : decode cX7_loopPart 156 = .ok (.return_, 1) := by decide +kernel
theorem dX7_messagePart_0 : decode cX7_messagePart 0 = .ok (.iconst 4, 1) := by decide +kernel
theorem dX7_messagePart_1 : decode cX7_messagePart 1 = .ok (.iload_n 1, 1) := by decide +kernel
theorem dX7_messagePart_2 : decode cX7_messagePart 2 = .ok (.imul, 1) := by decide +kernel
theorem dX7_messagePart_3 : decode cX7_messagePart 3 = .ok (.iload_n 2, 1) := by decide +kernel
theorem dX7_messagePart_4 : decode cX7_messagePart 4 = .ok (.iadd, 1) := by decide +kernel
theorem dX7_messagePart_5 : decode cX7_messagePart 5 = .ok (.istore_n 3, 1) := by decide +kernel
theorem dX7_messagePart_6 : decode cX7_messagePart 6 = .ok (.aload_n 0, 1) := by decide +kernel
theorem dX7_messagePart_7 : decode cX7_messagePart 7 = .ok (.getfield 17, 3) := by decide +kernel
theorem dX7_messagePart_10 : decode cX7_messagePart 10 = .ok (.iload_n 1, 1) := by decide +kernel
theorem dX7_messagePart_11 : decode cX7_messagePart 11 = .ok (.iaload, 1) := by decide +kernel
theorem dX7_messagePart_12 : decode cX7_messagePart 12 = .ok (.bipush 65, 2) := by decide +kernel
theorem dX7_messagePart_14 : decode cX7_messagePart 14 = .ok (.iload_n 2, 1) := by decide +kernel
theorem dX7_messagePart_15 : decode cX7_messagePart 15 = .ok (.iadd, 1) := by decide +kernel
theorem dX7_messagePart_16 : decode cX7_messagePart 16 = .ok (.if_icmp .ne 7, 3) := by decide +kernel
theorem dX7_messagePart_19 : decode cX7_messagePart 19 = .ok (.iconst 1, 1) := by decide +kernel
theorem dX7_messagePart_20 : decode cX7_messagePart 20 = .ok (.goto 4, 3) := by decide +kernel
theorem dX7_messagePart_23 : decode cX7_messagePart 23 = .ok (.iconst 0, 1) := by decide +kernel
theorem dX7_messagePart_24 : decode cX7_messagePart 24 = .ok (.istore 4, 2) := by decide +kernel
theorem dX7_messagePart_26 : decode cX7_messagePart 26 = .ok (.iload 4, 2) := by decide +kernel
theorem dX7_messagePart_28 : decode cX7_messagePart 28 = .ok (.ifCond .ne 16, 3) := by decide +kernel
theorem dX7_messagePart_31 : decode cX7_messagePart 31 = .ok (.aload_n 0, 1) := by decide +kernel
theorem dX7_messagePart_32 : decode cX7_messagePart 32 = .ok (.getfield 20, 3) := by decide +kernel
theorem dX7_messagePart_35 : decode cX7_messagePart 35 = .ok (.iload_n 1, 1) := by decide +kernel
theorem dX7_messagePart_36 : decode cX7_messagePart 36 = .ok (.iaload, 1) := by decide +kernel
theorem dX7_messagePart_37 : decode cX7_messagePart 37 = .ok (.bipush 65, 2) := by decide +kernel
