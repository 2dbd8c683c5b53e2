theorem dX6_pop_10 : decode cX6_pop 10 = .ok (.dup, 1) := by decide +kernel
theorem dX6_pop_11 : decode cX6_pop 11 = .ok (.getfield 25, 3) := by decide +kernel
theorem dX6_pop_14 : decode cX6_pop 14 = .ok (.iconst 1, 1) := by decide +kernel
theorem dX6_pop_15 : decode cX6_pop 15 = .ok (.isub, 1) := by decide +kernel
theorem dX6_pop_16 : decode cX6_pop 16 = .ok (.putfield 25, 3) := by decide +kernel
theorem dX6_pop_19 : decode cX6_pop 19 = .ok (.aload_n 0, 1) := by decide +kernel
theorem dX6_pop_20 : decode cX6_pop 20 = .ok (.getfield 18, 3) := by decide +kernel
theorem dX6_pop_23 : decode cX6_pop 23 = .ok (.aload_n 0, 1) := by decide +kernel
theorem dX6_pop_24 : decode cX6_pop 24 = .ok (.getfield 25, 3) := by decide +kernel
theorem dX6_pop_27 : decode cX6_pop 27 = .ok (.iaload, 1) := by decide +kernel
theorem dX6_pop_28 : decode cX6_pop 28 = .ok (.ireturn, 1) := by decide +kernel
theorem dX7_init_0 : decode cX7_init 0 = .ok (.aload_n 0, 1) := by decide +kernel
theorem dX7_init_1 : decode cX7_init 1 = .ok (.invokespecial 3, 3) := by decide +kernel
theorem dX7_init_4 : decode cX7_init 4 = .ok (.aload_n 0, 1) := by decide +kernel
theorem dX7_init_5 : decode cX7_init 5 = .ok (.aload_n 1, 1) := by decide +kernel
theorem dX7_init_6 : decode cX7_init 6 = .ok (.putfield 9, 3) := by decide +kernel
theorem dX7_init_9 : decode cX7_init 9 = .ok (.aload_n 0, 1) := by decide +kernel
theorem dX7_init_10 : decode cX7_init 10 = .ok (.aload_n 2, 1) := by decide +kernel
theorem dX7_init_11 : decode cX7_init 11 = .ok (.putfield 15, 3) := by decide +kernel
theorem dX7_init_14 : decode cX7_init 14 = .ok (.return_, 1) := by decide +kernel
theorem dX7_read_0 : decode cX7_read 0 = .ok (.aload_n 0, 1) := by decide +kernel
theorem dX7_read_1 : decode cX7_read 1 = .ok (.aload_n 1, 1) := by decide +kernel
theorem dX7_read_2 : decode cX7_read 2 = .ok (.putfield 15, 3) := by decide +kernel
theorem dX7_read_5 : decode cX7_read 5 = .ok (.aload_n 0, 1) := by decide +kernel
theorem dX7_read_6 : decode cX7_read 6 = .ok (.getfield 15, 3) := by decide +kernel
theorem dX7_read_9 : decode cX7_read 9 = .ok (.iconst 0, 1) := by decide +kernel
theorem dX7_read_10 : decode cX7_read 10 = .ok (.putfield 19, 3) := by decide +kernel
theorem dX7_read_13 : decode cX7_read 13 = .ok (.aload_n 0, 1) := by decide +kernel
theorem dX7_read_14 : decode cX7_read 14 = .ok (.getfield 9, 3) := by decide +kernel
theorem dX7_read_17 : decode cX7_read 17 = .ok (.iload_n 2, 1) := by decide +kernel
theorem dX7_read_18 : decode cX7_read 18 = .ok (.invokevirtual 25, 3) := by decide +kernel
theorem dX7_read_21 : decode cX7_read 21 = .ok (.aload_n 0, 1) := by decide +kernel
theorem dX7_read_22 : decode cX7_read 22 = .ok (.iconst 0, 1) := by decide +kernel
theorem dX7_read_23 : decode cX7_read 23 = .ok (.invokevirtual 31, 3) := by decide +kernel
theorem dX7_read_26 : decode cX7_read 26 = .ok (.ifCond .eq 17, 3) := by decide +kernel
theorem dX7_read_29 : decode cX7_read 29 = .ok (.aload_n 0, 1) := by decide +kernel
theorem dX7_read_30 : decode cX7_read 30 = .ok (.getfield 9, 3) := by decide +kernel
theorem dX7_read_33 : decode cX7_read 33 = .ok (.invokevirtual 35, 3) := by decide +kernel
theorem dX7_read_36 : decode cX7_read 36 = .ok (.ifCond .eq 7, 3) := by decide +kernel
theorem dX7_read_39 : decode cX7_read 39 = .ok (.iconst 1, 1) := by decide +kernel
theorem dX7_read_40 : decode cX7_read 40 = .ok (.goto 4, 3) := by decide +kernel
theorem dX7_read_43 : decode cX7_read 43 = .ok (.iconst 0, 1) := by decide +kernel
theorem dX7_read_44 : decode cX7_read 44 = .ok (.ireturn, 1) := by decide +kernel
theorem dX7_readChoice_0 : decode cX7_readChoice 0 = .ok (.iconst (-1), 1) := by decide +kernel
theorem dX7_readChoice_1 : decode cX7_readChoice 1 = .ok (.istore_n 2, 1) := by decide +kernel
theorem dX7_readChoice_2 : decode cX7_readChoice 2 = .ok (.aload_n 0, 1) := by decide +kernel
theorem dX7_readChoice_3 : decode cX7_readChoice 3 = .ok (.iload_n 1, 1) := by decide +kernel
theorem dX7_readChoice_4 : decode cX7_readChoice 4 = .ok (.invokevirtual 39, 3) := by decide +kernel
theorem dX7_readChoice_7 : decode cX7_readChoice 7 = .ok (.istore_n 3, 1) := by decide +kernel
theorem dX7_readChoice_8 : decode cX7_readChoice 8 = .ok (.iconst 0, 1) := by decide +kernel
theorem dX7_readChoice_9 : decode cX7_readChoice 9 = .ok (.istore 4, 2) := by decide +kernel
theorem dX7_readChoice_11 : decode cX7_readChoice 11 = .ok (.iload 4, 2) := by decide +kernel
theorem dX7_readChoice_13 : decode cX7_readChoice 13 = .ok (.bipush 120, 2) := by decide +kernel
theorem dX7_readChoice_15 : decode cX7_readChoice 15 = .ok (.if_icmp .ge 53, 3) := by decide +kernel
theorem dX7_readChoice_18 : decode cX7_readChoice 18 = .ok (.iload_n 3, 1) := by decide +kernel
theorem dX7_readChoice_19 : decode cX7_readChoice 19 = .ok (.ifCond .eq 49, 3) := by decide +kernel
theorem dX7_readChoice_22 : decode cX7_readChoice 22 = .ok (.aload_n 0, 1) := by decide +kernel
theorem dX7_readChoice_23 : decode cX7_readChoice 23 = .ok (.getfield 9, 3) := by decide +kernel
theorem dX7_readChoice_26 : decode cX7_readChoice 26 = .ok (.invokevirtual 42, 3) := by decide +kernel
theorem dX7_readChoice_29 : decode cX7_readChoice 29 = .ok (.bipush 124, 2) := by decide +kernel
theorem dX7_readChoice_31 : decode cX7_readChoice 31 = .ok (.if_icmp .ne 37, 3) := by decide +kernel
theorem dX7_readChoice_34 : decode cX7_readChoice 34 = .ok (.aload_n 0, 1) := by decide +kernel
theorem dX7_readChoice_35 : decode cX7_readChoice 35 = .ok (.iload_n 2, 1) := by decide +kernel
theorem dX7_readChoice_36 : decode cX7_readChoice 36 = .ok (.invokevirtual 46, 3) := by decide +kernel
theorem dX7_readChoice_39 : decode cX7_readChoice 39 = .ok (.aload_n 0, 1) := by decide +kernel
theorem dX7_readChoice_40 : decode cX7_readChoice 40 = .ok (.getfield 15, 3) := by decide +kernel
theorem dX7_readChoice_43 : decode cX7_readChoice 43 = .ok (.iconst 4, 1) := by decide +kernel
theorem dX7_readChoice_44 : decode cX7_readChoice 44 = .ok (.iconst 0, 1) := by decide +kernel
theorem dX7_readChoice_45 : decode cX7_readChoice 45 = .ok (.invokevirtual 49, 3) := by decide +kernel
theorem dX7_readChoice_48 : decode cX7_readChoice 48 = .ok (.istore_n 2, 1) := by decide +kernel
theorem dX7_readChoice_49 : decode cX7_readChoice 49 = .ok (.aload_n 0, 1) := by decide +kernel
theorem dX7_readChoice_50 : decode cX7_readChoice 50 = .ok (.getfield 9, 3) := by decide +kernel
theorem dX7_readChoice_53 : decode cX7_readChoice 53 = .ok (.invokevirtual 53, 3) := by decide +kernel
theorem dX7_readChoice_56 : decode cX7_readChoice 56 = .ok (.aload_n 0, 1) := by decide +kernel
theorem dX7_readChoice_57 : decode cX7_readChoice 57 = .ok (.iload_n 1, 1) := by decide +kernel
theorem dX7_readChoice_58 : decode cX7_readChoice 58 = .ok (.invokevirtual 39, 3) := by decide +kernel
theorem dX7_readChoice_61 : decode cX7_readChoice 61 = .ok (.istore_n 3, 1) := by decide +kernel
theorem dX7_readChoice_62 : decode cX7_readChoice 62 = .ok (.iinc 4 1, 3) := by decide +kernel
theorem dX7_readChoice_65 : decode cX7_readChoice 65 = .ok (.goto (-54), 3) := by decide +kernel
theorem dX7_readChoice_68 : decode cX7_readChoice 68 = .ok (.aload_n 0, 1) := by decide +kernel
theorem dX7_readChoice_69 : decode cX7_readChoice 69 = .ok (.iload_n 2, 1) := by decide +kernel
theorem dX7_readChoice_70 : decode cX7_readChoice 70 = .ok (.invokevirtual 46, 3) := by decide +kernel
theorem dX7_readChoice_73 : decode cX7_readChoice 73 = .ok (.iload_n 3, 1) := by decide +kernel
theorem dX7_readChoice_74 : decode cX7_readChoice 74 = .ok (.ireturn, 1) := by decide +kernel
theorem dX7_readPart_0 : decode cX7_readPart 0 = .ok (.iconst (-1), 1) := by decide +kernel
theorem dX7_readPart_1 : decode cX7_readPart 1 = .ok (.istore_n 2, 1) := by decide +kernel
theorem dX7_readPart_2 : decode cX7_readPart 2 = .ok (.aload_n 0, 1) := by decide +kernel
theorem dX7_readPart_3 : decode cX7_readPart 3 = .ok (.iload_n 1, 1) := by decide +kernel
theorem dX7_readPart_4 : decode cX7_readPart 4 = .ok (.invokevirtual 56, 3) := by decide +kernel
theorem dX7_readPart_7 : decode cX7_readPart 7 = .ok (.istore_n 3, 1) := by decide +kernel
theorem dX7_readPart_8 : decode cX7_readPart 8 = .ok (.iconst 0, 1) := by decide +kernel
theorem dX7_readPart_9 : decode cX7_readPart 9 = .ok (.istore 4, 2) := by decide +kernel
theorem dX7_readPart_11 : decode cX7_readPart 11 = .ok (.iload 4, 2) := by decide +kernel
theorem dX7_readPart_13 : decode cX7_readPart 13 = .ok (.bipush 120, 2) := by decide +kernel
theorem dX7_readPart_15 : decode cX7_readPart 15 = .ok (.if_icmp .ge 53, 3) := by decide +kernel
theorem dX7_readPart_18 : decode cX7_readPart 18 = .ok (.iload_n 3, 1) := by decide +kernel
theorem dX7_readPart_19 : decode cX7_readPart 19 = .ok (.ifCond .eq 49, 3) := by decide +kernel
theorem dX7_readPart_22 : decode cX7_readPart 22 = .ok (.aload_n 0, 1) := by decide +kernel
theorem dX7_readPart_23 : decode cX7_readPart 23 = .ok (.getfield 9, 3) := by decide +kernel
theorem dX7_readPart_26 : decode cX7_readPart 26 = .ok (.invokevirtual 42, 3) := by decide +kernel
theorem dX7_readPart_29 : decode cX7_readPart 29 = .ok (.bipush 38, 2) := by decide +kernel
theorem dX7_readPart_31 : decode cX7_readPart 31 = .ok (.if_icmp .ne 37, 3) := by decide +kernel
theorem dX7_readPart_34 : decode cX7_readPart 34 = .ok (.aload_n 0, 1) := by decide +kernel
theorem dX7_readPart_35 : decode cX7_readPart 35 = .ok (.iload_n 2, 1) := by decide +kernel
theorem dX7_readPart_36 : decode cX7_readPart 36 = .ok (.invokevirtual 46, 3) := by decide +kernel
theorem dX7_readPart_39 : decode cX7_readPart 39 = .ok (.aload_n 0, 1) := by decide +kernel
theorem dX7_readPart_40 : decode cX7_readPart 40 = .ok (.getfield 15, 3) := by decide +kernel
theorem dX7_readPart_43 : decode cX7_readPart 43 = .ok (.iconst 3, 1) := by decide +kernel
theorem dX7_readPart_44 : decode cX7_readPart 44 = .ok (.iconst 0, 1) := by decide +kernel
theorem dX7_readPart_45 : decode cX7_readPart 45 = .ok (.invokevirtual 49, 3) := by decide +kernel
theorem dX7_readPart_48 : decode cX7_readPart 48 = .ok (.istore_n 2, 1) := by decide +kernel
theorem dX7_readPart_49 : decode cX7_readPart 49 = .ok (.aload_n 0, 1) := by decide +kernel
theorem dX7_readPart_50 : decode cX7_readPart 50 = .ok (.getfield 9, 3) := by decide +kernel
theorem dX7_readPart_53 : decode cX7_readPart 53 = .ok (.invokevirtual 53, 3) := by decide +kernel
theorem dX7_readPart_56 : decode cX7_readPart 56 = .ok (.aload_n 0, 1) := by decide +kernel
theorem dX7_readPart_57 : decode cX7_readPart 57 = .ok (.iload_n 1, 1) := by decide +kernel
theorem dX7_readPart_58 : decode cX7_readPart 58 = .ok (.invokevirtual 56, 3) := by decide +kernel
theorem dX7_readPart_61 : decode cX7_readPart 61 = .ok (.istore_n 3, 1) := by decide +kernel
theorem dX7_readPart_62 : decode cX7_readPart 62 = .ok (.iinc 4 1, 3) := by decide +kernel
theorem dX7_readPart_65 : decode cX7_readPart 65 = .ok (.goto (-54), 3) := by decide +kernel
theorem dX7_readPart_68 : decode cX7_readPart 68 = .ok (.aload_n 0, 1) := by decide +kernel
theorem dX7_readPart_69 : decode cX7_readPart 69 = .ok (.iload_n 2, 1) := by decide +kernel
theorem dX7_readPart_70 : decode cX7_readPart 70 = .ok (.invokevirtual 46, 3) := by decide +kernel
theorem dX7_readPart_73 : decode cX7_readPart 73 = .ok (.iload_n 3, 1) := by decide +kernel
theorem dX7_readPart_74 : decode cX7_readPart 74 = .ok (.ireturn, 1) := by decide +kernel
theorem dX7_lead_0 : decode cX7_lead 0 = .ok (.iload_n 1, 1) := by decide +kernel
theorem dX7_lead_1 : decode cX7_lead 1 = .ok (.iconst 0, 1) := by decide +kernel
theorem dX7_lead_2 : decode cX7_lead 2 = .ok (.bipush 119, 2) := by decide +kernel
theorem dX7_lead_4 : decode cX7_lead 4 = .ok (.invokestatic 59, 3) := by decide +kernel
theorem dX7_lead_7 : decode cX7_lead 7 = .ok (.ifCond .eq 19, 3) := by decide +kernel
theorem dX7_lead_10 : decode cX7_lead 10 = .ok (.aload_n 0, 1) := by decide +kernel
theorem dX7_lead_11 : decode cX7_lead 11 = .ok (.getfield 15, 3) := by decide +kernel
theorem dX7_lead_14 : decode cX7_lead 14 = .ok (.getfield 63, 3) := by decide +kernel
theorem dX7_lead_17 : decode cX7_lead 17 = .ok (.iload_n 1, 1) := by decide +kernel
theorem dX7_lead_18 : decode cX7_lead 18 = .ok (.aload_n 0, 1) := by decide +kernel
theorem dX7_lead_19 : decode cX7_lead 19 = .ok (.getfield 15, 3) := by decide +kernel
theorem dX7_lead_22 : decode cX7_lead 22 = .ok (.getfield 19, 3) := by decide +kernel
theorem dX7_lead_25 : decode cX7_lead 25 = .ok (.iastore, 1) := by decide +kernel
theorem dX7_lead_26 : decode cX7_lead 26 = .ok (.return_, 1) := by decide +kernel
theorem dX7_readPiece_0 : decode cX7_readPiece 0 = .ok (.aload_n 0, 1) := by decide +kernel
theorem dX7_readPiece_1 : decode cX7_readPiece 1 = .ok (.getfield 9, 3) := by decide +kernel
theorem dX7_readPiece_4 : decode cX7_readPiece 4 = .ok (.invokevirtual 42, 3) := by decide +kernel
theorem dX7_readPiece_7 : decode cX7_readPiece 7 = .ok (.istore_n 2, 1) := by decide +kernel
theorem dX7_readPiece_8 : decode cX7_readPiece 8 = .ok (.iload_n 2, 1) := by decide +kernel
theorem dX7_readPiece_9 : decode cX7_readPiece 9 = .ok (.bipush 33, 2) := by decide +kernel
theorem dX7_readPiece_11 : decode cX7_readPiece 11 = .ok (.if_icmp .ne 43, 3) := by decide +kernel
theorem dX7_readPiece_14 : decode cX7_readPiece 14 = .ok (.aload_n 0, 1) := by decide +kernel
theorem dX7_readPiece_15 : decode cX7_readPiece 15 = .ok (.getfield 9, 3) := by decide +kernel
theorem dX7_readPiece_18 : decode cX7_readPiece 18 = .ok (.iload_n 1, 1) := by decide +kernel
theorem dX7_readPiece_19 : decode cX7_readPiece 19 = .ok (.invokevirtual 67, 3) := by decide +kernel
theorem dX7_readPiece_22 : decode cX7_readPiece 22 = .ok (.ifCond .ne 5, 3) := by decide +kernel
theorem dX7_readPiece_25 : decode cX7_readPiece 25 = .ok (.iconst 0, 1) := by decide +kernel
theorem dX7_readPiece_26 : decode cX7_readPiece 26 = .ok (.ireturn, 1) := by decide +kernel
theorem dX7_readPiece_27 : decode cX7_readPiece 27 = .ok (.aload_n 0, 1) := by decide +kernel
theorem dX7_readPiece_28 : decode cX7_readPiece 28 = .ok (.getfield 9, 3) := by decide +kernel
theorem dX7_readPiece_31 : decode cX7_readPiece 31 = .ok (.invokevirtual 53, 3) := by decide +kernel
theorem dX7_readPiece_34 : decode cX7_readPiece 34 = .ok (.aload_n 0, 1) := by decide +kernel
theorem dX7_readPiece_35 : decode cX7_readPiece 35 = .ok (.iload_n 1, 1) := by decide +kernel
theorem dX7_readPiece_36 : decode cX7_readPiece 36 = .ok (.iconst 1, 1) := by decide +kernel
theorem dX7_readPiece_37 : decode cX7_readPiece 37 = .ok (.iadd, 1) := by decide +kernel
theorem dX7_readPiece_38 : decode cX7_readPiece 38 = .ok (.invokevirtual 56, 3) := by decide +kernel
theorem dX7_readPiece_41 : decode cX7_readPiece 41 = .ok (.istore_n 3, 1) := by decide +kernel
theorem dX7_readPiece_42 : decode cX7_readPiece 42 = .ok (.aload_n 0, 1) := by decide +kernel
theorem dX7_readPiece_43 : decode cX7_readPiece 43 = .ok (.getfield 15, 3) := by decide +kernel
theorem dX7_readPiece_46 : decode cX7_readPiece 46 = .ok (.iconst 2, 1) := by decide +kernel
theorem dX7_readPiece_47 : decode cX7_readPiece 47 = .ok (.iconst 0, 1) := by decide +kernel
theorem dX7_readPiece_48 : decode cX7_readPiece 48 = .ok (.invokevirtual 49, 3) := by decide +kernel
theorem dX7_readPiece_51 : decode cX7_readPiece 51 = .ok (.pop, 1) := by decide +kernel
theorem dX7_readPiece_52 : decode cX7_readPiece 52 = .ok (.iload_n 3, 1) := by decide +kernel
theorem dX7_readPiece_53 : decode cX7_readPiece 53 = .ok (.ireturn, 1) := by decide +kernel
theorem dX7_readPiece_54 : decode cX7_readPiece 54 = .ok (.iload_n 2, 1) := by decide +kernel
theorem dX7_readPiece_55 : decode cX7_readPiece 55 = .ok (.bipush 40, 2) := by decide +kernel
theorem dX7_readPiece_57 : decode cX7_readPiece 57 = .ok (.if_icmp .ne 51, 3) := by decide +kernel
theorem dX7_readPiece_60 : decode cX7_readPiece 60 = .ok (.aload_n 0, 1) := by decide +kernel
theorem dX7_readPiece_61 : decode cX7_readPiece 61 = .ok (.getfield 9, 3) := by decide +kernel
theorem dX7_readPiece_64 : decode cX7_readPiece 64 = .ok (.iload_n 1, 1) := by decide +kernel
theorem dX7_readPiece_65 : decode cX7_readPiece 65 = .ok (.invokevirtual 67, 3) := by decide +kernel
theorem dX7_readPiece_68 : decode cX7_readPiece 68 = .ok (.ifCond .ne 5, 3) := by decide +kernel
theorem dX7_readPiece_71 : decode cX7_readPiece 71 = .ok (.iconst 0, 1) := by decide +kernel
theorem dX7_readPiece_72 : decode cX7_readPiece 72 = .ok (.ireturn, 1) := by decide +kernel
theorem dX7_readPiece_73 : decode cX7_readPiece 73 = .ok (.aload_n 0, 1) := by decide +kernel
theorem dX7_readPiece_74 : decode cX7_readPiece 74 = .ok (.getfield 9, 3) := by decide +kernel
theorem dX7_readPiece_77 : decode cX7_readPiece 77 = .ok (.invokevirtual 53, 3) := by decide +kernel
theorem dX7_readPiece_80 : decode cX7_readPiece 80 = .ok (.aload_n 0, 1) := by decide +kernel
theorem dX7_readPiece_81 : decode cX7_readPiece 81 = .ok (.iload_n 1, 1) := by decide +kernel
theorem dX7_readPiece_82 : decode cX7_readPiece 82 = .ok (.iconst 1, 1) := by decide +kernel
theorem dX7_readPiece_83 : decode cX7_readPiece 83 = .ok (.iadd, 1) := by decide +kernel
theorem dX7_readPiece_84 : decode cX7_readPiece 84 = .ok (.invokevirtual 31, 3) := by decide +kernel
theorem dX7_readPiece_87 : decode cX7_readPiece 87 = .ok (.ifCond .eq 19, 3) := by decide +kernel
theorem dX7_readPiece_90 : decode cX7_readPiece 90 = .ok (.aload_n 0, 1) := by decide +kernel
theorem dX7_readPiece_91 : decode cX7_readPiece 91 = .ok (.getfield 9, 3) := by decide +kernel
theorem dX7_readPiece_94 : decode cX7_readPiece 94 = .ok (.bipush 41, 2) := by decide +kernel
theorem dX7_readPiece_96 : decode cX7_readPiece 96 = .ok (.invokevirtual 70, 3) := by decide +kernel
theorem dX7_readPiece_99 : decode cX7_readPiece 99 = .ok (.ifCond .eq 7, 3) := by decide +kernel
theorem dX7_readPiece_102 : decode cX7_readPiece 102 = .ok (.iconst 1, 1) := by decide +kernel
theorem dX7_readPiece_103 : decode cX7_readPiece 103 = .ok (.goto 4, 3) := by decide +kernel
theorem dX7_readPiece_106 : decode cX7_readPiece 106 = .ok (.iconst 0, 1) := by decide +kernel
theorem dX7_readPiece_107 : decode cX7_readPiece 107 = .ok (.ireturn, 1) := by decide +kernel
theorem dX7_readPiece_108 : decode cX7_readPiece 108 = .ok (.aload_n 0, 1) := by decide +kernel
theorem dX7_readPiece_109 : decode cX7_readPiece 109 = .ok (.iload_n 1, 1) := by decide +kernel
theorem dX7_readPiece_110 : decode cX7_readPiece 110 = .ok (.invokevirtual 73, 3) := by decide +kernel
theorem dX7_readPiece_113 : decode cX7_readPiece 113 = .ok (.ireturn, 1) := by decide +kernel
theorem dX7_readComparison_0 : decode cX7_readComparison 0 = .ok (.aload_n 0, 1) := by decide +kernel
theorem dX7_readComparison_1 : decode cX7_readComparison 1 = .ok (.iload_n 1, 1) := by decide +kernel
theorem dX7_readComparison_2 : decode cX7_readComparison 2 = .ok (.invokevirtual 76, 3) := by decide +kernel
theorem dX7_readComparison_5 : decode cX7_readComparison 5 = .ok (.ifCond .ne 5, 3) := by decide +kernel
theorem dX7_readComparison_8 : decode cX7_readComparison 8 = .ok (.iconst 0, 1) := by decide +kernel
theorem dX7_readComparison_9 : decode cX7_readComparison 9 = .ok (.ireturn, 1) := by decide +kernel
theorem dX7_readComparison_10 : decode cX7_readComparison 10 = .ok (.aload_n 0, 1) := by decide +kernel
theorem dX7_readComparison_11 : decode cX7_readComparison 11 = .ok (.getfield 9, 3) := by decide +kernel
theorem dX7_readComparison_14 : decode cX7_readComparison 14 = .ok (.invokevirtual 42, 3) := by decide +kernel
theorem dX7_readComparison_17 : decode cX7_readComparison 17 = .ok (.istore_n 2, 1) := by decide +kernel
theorem dX7_readComparison_18 : decode cX7_readComparison 18 = .ok (.iload_n 2, 1) := by decide +kernel
theorem dX7_readComparison_19 : decode cX7_readComparison 19 = .ok (.bipush 60, 2) := by decide +kernel
theorem dX7_readComparison_21 : decode cX7_readComparison 21 = .ok (.if_icmp .eq 24, 3) := by decide +kernel
theorem dX7_readComparison_24 : decode cX7_readComparison 24 = .ok (.iload_n 2, 1) := by decide +kernel
theorem dX7_readComparison_25 : decode cX7_readComparison 25 = .ok (.bipush 62, 2) := by decide +kernel
theorem dX7_readComparison_27 : decode cX7_readComparison 27 = .ok (.if_icmp .eq 18, 3) := by decide +kernel
theorem dX7_readComparison_30 : decode cX7_readComparison 30 = .ok (.iload_n 2, 1) := by decide +kernel
theorem dX7_readComparison_31 : decode cX7_readComparison 31 = .ok (.bipush 61, 2) := by decide +kernel
theorem dX7_readComparison_33 : decode cX7_readComparison 33 = .ok (.if_icmp .eq 12, 3) := by decide +kernel
theorem dX7_readComparison_36 : decode cX7_readComparison 36 = .ok (.aload_n 0, 1) := by decide +kernel
theorem dX7_readComparison_37 : decode cX7_readComparison 37 = .ok (.getfield 9, 3) := by decide +kernel
theorem dX7_readComparison_40 : decode cX7_readComparison 40 = .ok (.iconst 1, 1) := by decide +kernel
theorem dX7_readComparison_41 : decode cX7_readComparison 41 = .ok (.invokevirtual 79, 3) := by decide +kernel
theorem dX7_readComparison_44 : decode cX7_readComparison 44 = .ok (.ireturn, 1) := by decide +kernel
theorem dX7_readComparison_45 : decode cX7_readComparison 45 = .ok (.aload_n 0, 1) := by decide +kernel
theorem dX7_readComparison_46 : decode cX7_readComparison 46 = .ok (.getfield 9, 3) := by decide +kernel
theorem dX7_readComparison_49 : decode cX7_readComparison 49 = .ok (.invokevirtual 53, 3) := by decide +kernel
theorem dX7_readComparison_52 : decode cX7_readComparison 52 = .ok (.aload_n 0, 1) := by decide +kernel
theorem dX7_readComparison_53 : decode cX7_readComparison 53 = .ok (.iload_n 1, 1) := by decide +kernel
theorem dX7_readComparison_54 : decode cX7_readComparison 54 = .ok (.invokevirtual 76, 3) := by decide +kernel
theorem dX7_readComparison_57 : decode cX7_readComparison 57 = .ok (.istore_n 3, 1) := by decide +kernel
theorem dX7_readComparison_58 : decode cX7_readComparison 58 = .ok (.aload_n 0, 1) := by decide +kernel
theorem dX7_readComparison_59 : decode cX7_readComparison 59 = .ok (.getfield 15, 3) := by decide +kernel
theorem dX7_readComparison_62 : decode cX7_readComparison 62 = .ok (.iload_n 2, 1) := by decide +kernel
theorem dX7_readComparison_63 : decode cX7_readComparison 63 = .ok (.iconst 0, 1) := by decide +kernel
theorem dX7_readComparison_64 : decode cX7_readComparison 64 = .ok (.invokevirtual 49, 3) := by decide +kernel
theorem dX7_readComparison_67 : decode cX7_readComparison 67 = .ok (.pop, 1) := by decide +kernel
theorem dX7_readComparison_68 : decode cX7_readComparison 68 = .ok (.iload_n 3, 1) := by decide +kernel
theorem dX7_readComparison_69 : decode cX7_readComparison 69 = .ok (.ireturn, 1) := by decide +kernel
theorem dX7_readTerms_0 : decode cX7_readTerms 0 = .ok (.aload_n 0, 1) := by decide +kernel
theorem dX7_readTerms_1 : decode cX7_readTerms 1 = .ok (.iload_n 1, 1) := by decide +kernel
theorem dX7_readTerms_2 : decode cX7_readTerms 2 = .ok (.invokevirtual 82, 3) := by decide +kernel
theorem dX7_readTerms_5 : decode cX7_readTerms 5 = .ok (.istore_n 2, 1) := by decide +kernel
theorem dX7_readTerms_6 : decode cX7_readTerms 6 = .ok (.iconst 0, 1) := by decide +kernel
theorem dX7_readTerms_7 : decode cX7_readTerms 7 = .ok (.istore_n 3, 1) := by decide +kernel
theorem dX7_readTerms_8 : decode cX7_readTerms 8 = .ok (.iload_n 3, 1) := by decide +kernel
theorem dX7_readTerms_9 : decode cX7_readTerms 9 = .ok (.bipush 120, 2) := by decide +kernel
theorem dX7_readTerms_11 : decode cX7_readTerms 11 = .ok (.if_icmp .ge 59, 3) := by decide +kernel
theorem dX7_readTerms_14 : decode cX7_readTerms 14 = .ok (.iload_n 2, 1) := by decide +kernel
theorem dX7_readTerms_15 : decode cX7_readTerms 15 = .ok (.ifCond .eq 55, 3) := by decide +kernel
theorem dX7_readTerms_18 : decode cX7_readTerms 18 = .ok (.aload_n 0, 1) := by decide +kernel
theorem dX7_readTerms_19 : decode cX7_readTerms 19 = .ok (.getfield 9, 3) := by decide +kernel
theorem dX7_readTerms_22 : decode cX7_readTerms 22 = .ok (.invokevirtual 42, 3) := by decide +kernel
theorem dX7_readTerms_25 : decode cX7_readTerms 25 = .ok (.invokestatic 85, 3) := by decide +kernel
theorem dX7_readTerms_28 : decode cX7_readTerms 28 = .ok (.ifCond .eq 42, 3) := by decide +kernel
theorem dX7_readTerms_31 : decode cX7_readTerms 31 = .ok (.aload_n 0, 1) := by decide +kernel
theorem dX7_readTerms_32 : decode cX7_readTerms 32 = .ok (.getfield 9, 3) := by decide +kernel
theorem dX7_readTerms_35 : decode cX7_readTerms 35 = .ok (.invokevirtual 42, 3) := by decide +kernel
theorem dX7_readTerms_38 : decode cX7_readTerms 38 = .ok (.istore 4, 2) := by decide +kernel
theorem dX7_readTerms_40 : decode cX7_readTerms 40 = .ok (.aload_n 0, 1) := by decide +kernel
theorem dX7_readTerms_41 : decode cX7_readTerms 41 = .ok (.getfield 9, 3) := by decide +kernel
theorem dX7_readTerms_44 : decode cX7_readTerms 44 = .ok (.invokevirtual 53, 3) := by decide +kernel
theorem dX7_readTerms_47 : decode cX7_readTerms 47 = .ok (.aload_n 0, 1) := by decide +kernel
theorem dX7_readTerms_48 : decode cX7_readTerms 48 = .ok (.iload_n 1, 1) := by decide +kernel
theorem dX7_readTerms_49 : decode cX7_readTerms 49 = .ok (.invokevirtual 82, 3) := by decide +kernel
theorem dX7_readTerms_52 : decode cX7_readTerms 52 = .ok (.istore_n 2, 1) := by decide +kernel
theorem dX7_readTerms_53 : decode cX7_readTerms 53 = .ok (.aload_n 0, 1) := by decide +kernel
theorem dX7_readTerms_54 : decode cX7_readTerms 54 = .ok (.getfield 15, 3) := by decide +kernel
theorem dX7_readTerms_57 : decode cX7_readTerms 57 = .ok (.iload 4, 2) := by decide +kernel
theorem dX7_readTerms_59 : decode cX7_readTerms 59 = .ok (.iconst 0, 1) := by decide +kernel
theorem dX7_readTerms_60 : decode cX7_readTerms 60 = .ok (.invokevirtual 49, 3) := by decide +kernel
theorem dX7_readTerms_63 : decode cX7_readTerms 63 = .ok (.pop, 1) := by decide +kernel
theorem dX7_readTerms_64 : decode cX7_readTerms 64 = .ok (.iinc 3 1, 3) := by decide +kernel
theorem dX7_readTerms_67 : decode cX7_readTerms 67 = .ok (.goto (-59), 3) := by decide +kernel
theorem dX7_readTerms_70 : decode cX7_readTerms 70 = .ok (.iload_n 2, 1) := by decide +kernel
theorem dX7_readTerms_71 : decode cX7_readTerms 71 = .ok (.ireturn, 1) := by decide +kernel
theorem dX7_readFactors_0 : decode cX7_readFactors 0 = .ok (.aload_n 0, 1) := by decide +kernel
theorem dX7_readFactors_1 : decode cX7_readFactors 1 = .ok (.iload_n 1, 1) := by decide +kernel
theorem dX7_readFactors_2 : decode cX7_readFactors 2 = .ok (.invokevirtual 88, 3) := by decide +kernel
theorem dX7_readFactors_5 : decode cX7_readFactors 5 = .ok (.istore_n 2, 1) := by decide +kernel
theorem dX7_readFactors_6 : decode cX7_readFactors 6 = .ok (.iconst 0, 1) := by decide +kernel
theorem dX7_readFactors_7 : decode cX7_readFactors 7 = .ok (.istore_n 3, 1) := by decide +kernel
theorem dX7_readFactors_8 : decode cX7_readFactors 8 = .ok (.iload_n 3, 1) := by decide +kernel
theorem dX7_readFactors_9 : decode cX7_readFactors 9 = .ok (.bipush 120, 2) := by decide +kernel
theorem dX7_readFactors_11 : decode cX7_readFactors 11 = .ok (.if_icmp .ge 59, 3) := by decide +kernel
theorem dX7_readFactors_14 : decode cX7_readFactors 14 = .ok (.iload_n 2, 1) := by decide +kernel
theorem dX7_readFactors_15 : decode cX7_readFactors 15 = .ok (.ifCond .eq 55, 3) := by decide +kernel
theorem dX7_readFactors_18 : decode cX7_readFactors 18 = .ok (.aload_n 0, 1) := by decide +kernel
theorem dX7_readFactors_19 : decode cX7_readFactors 19 = .ok (.getfield 9, 3) := by decide +kernel
theorem dX7_readFactors_22 : decode cX7_readFactors 22 = .ok (.invokevirtual 42, 3) := by decide +kernel
theorem dX7_readFactors_25 : decode cX7_readFactors 25 = .ok (.invokestatic 91, 3) := by decide +kernel
theorem dX7_readFactors_28 : decode cX7_readFactors 28 = .ok (.ifCond .eq 42, 3) := by decide +kernel
theorem dX7_readFactors_31 : decode cX7_readFactors 31 = .ok (.aload_n 0, 1) := by decide +kernel
theorem dX7_readFactors_32 : decode cX7_readFactors 32 = .ok (.getfield 9, 3) := by decide +kernel
theorem dX7_readFactors_35 : decode cX7_readFactors 35 = .ok (.invokevirtual 42, 3) := by decide +kernel
theorem dX7_readFactors_38 : decode cX7_readFactors 38 = .ok (.istore 4, 2) := by decide +kernel
theorem dX7_readFactors_40 : decode cX7_readFactors 40 = .ok (.aload_n 0, 1) := by decide +kernel
theorem dX7_readFactors_41 : decode cX7_readFactors 41 = .ok (.getfield 9, 3) := by decide +kernel
theorem dX7_readFactors_44 : decode cX7_readFactors 44 = .ok (.invokevirtual 53, 3) := by decide +kernel
theorem dX7_readFactors_47 : decode cX7_readFactors 47 = .ok (.aload_n 0, 1) := by decide +kernel
theorem dX7_readFactors_48 : decode cX7_readFactors 48 = .ok (.iload_n 1, 1) := by decide +kernel
theorem dX7_readFactors_49 : decode cX7_readFactors 49 = .ok (.invokevirtual 88, 3) := by decide +kernel
theorem dX7_readFactors_52 : decode cX7_readFactors 52 = .ok (.istore_n 2, 1) := by decide +kernel
theorem dX7_readFactors_53 : decode cX7_readFactors 53 = .ok (.aload_n 0, 1) := by decide +kernel
theorem dX7_readFactors_54 : decode cX7_readFactors 54 = .ok (.getfield 15, 3) := by decide +kernel
theorem dX7_readFactors_57 : decode cX7_readFactors 57 = .ok (.iload 4, 2) := by decide +kernel
theorem dX7_readFactors_59 : decode cX7_readFactors 59 = .ok (.iconst 0, 1) := by decide +kernel
theorem dX7_readFactors_60 : decode cX7_readFactors 60 = .ok (.invokevirtual 49, 3) := by decide +kernel
theorem dX7_readFactors_63 : decode cX7_readFactors 63 = .ok (.pop, 1) := by decide +kernel
theorem dX7_readFactors_64 : decode cX7_readFactors 64 = .ok (.iinc 3 1, 3) := by decide +kernel
theorem dX7_readFactors_67 : decode cX7_readFactors 67 = .ok (.goto (-59), 3) := by decide +kernel
theorem dX7_readFactors_70 : decode cX7_readFactors 70 = .ok (.iload_n 2, 1) := by decide +kernel
theorem dX7_readFactors_71 : decode cX7_readFactors 71 = .ok (.ireturn, 1) := by decide +kernel
theorem dX7_isSum_0 : decode cX7_isSum 0 = .ok (.iload_n 0, 1) := by decide +kernel
theorem dX7_isSum_1 : decode cX7_isSum 1 = .ok (.bipush 43, 2) := by decide +kernel
theorem dX7_isSum_3 : decode cX7_isSum 3 = .ok (.if_icmp .eq 9, 3) := by decide +kernel
theorem dX7_isSum_6 : decode cX7_isSum 6 = .ok (.iload_n 0, 1) := by decide +kernel
theorem dX7_isSum_7 : decode cX7_isSum 7 = .ok (.bipush 45, 2) := by decide +kernel
theorem dX7_isSum_9 : decode cX7_isSum 9 = .ok (.if_icmp .ne 7, 3) := by decide +kernel
theorem dX7_isSum_12 : decode cX7_isSum 12 = .ok (.iconst 1, 1) := by decide +kernel
theorem dX7_isSum_13 : decode cX7_isSum 13 = .ok (.goto 4, 3) := by decide +kernel
theorem dX7_isSum_16 : decode cX7_isSum 16 = .ok (.iconst 0, 1) := by decide +kernel
theorem dX7_isSum_17 : decode cX7_isSum 17 = .ok (.ireturn, 1) := by decide +kernel
theorem dX7_isProduct_0 : decode cX7_isProduct 0 = .ok (.iload_n 0, 1) := by decide +kernel
theorem dX7_isProduct_1 : decode cX7_isProduct 1 = .ok (.bipush 42, 2) := by decide +kernel
theorem dX7_isProduct_3 : decode cX7_isProduct 3 = .ok (.if_icmp .eq 15, 3) := by decide +kernel
theorem dX7_isProduct_6 : decode cX7_isProduct 6 = .ok (.iload_n 0, 1) := by decide +kernel
theorem dX7_isProduct_7 : decode cX7_isProduct 7 = .ok (.bipush 47, 2) := by decide +kernel
theorem dX7_isProduct_9 : decode cX7_isProduct 9 = .ok (.if_icmp .eq 9, 3) := by decide +kernel
theorem dX7_isProduct_12 : decode cX7_isProduct 12 = .ok (.iload_n 0, 1) := by decide +kernel
theorem dX7_isProduct_13 : decode cX7_isProduct 13 = .ok (.bipush 37, 2) := by decide +kernel
theorem dX7_isProduct_15 : decode cX7_isProduct 15 = .ok (.if_icmp .ne 7, 3) := by decide +kernel
theorem dX7_isProduct_18 : decode cX7_isProduct 18 = .ok (.iconst 1, 1) := by decide +kernel
theorem dX7_isProduct_19 : decode cX7_isProduct 19 = .ok (.goto 4, 3) := by decide +kernel
theorem dX7_isProduct_22 : decode cX7_isProduct 22 = .ok (.iconst 0, 1) := by decide +kernel
theorem dX7_isProduct_23 : decode cX7_isProduct 23 = .ok (.ireturn, 1) := by decide +kernel
theorem dX7_readFactor_0 : decode cX7_readFactor 0 = .ok (.aload_n 0, 1) := by decide +kernel
theorem dX7_readFactor_1 : decode cX7_readFactor 1 = .ok (.getfield 9, 3) := by decide +kernel
theorem dX7_readFactor_4 : decode cX7_readFactor 4 = .ok (.invokevirtual 42, 3) := by decide +kernel
theorem dX7_readFactor_7 : decode cX7_readFactor 7 = .ok (.istore_n 2, 1) := by decide +kernel
theorem dX7_readFactor_8 : decode cX7_readFactor 8 = .ok (.iload_n 2, 1) := by decide +kernel
theorem dX7_readFactor_9 : decode cX7_readFactor 9 = .ok (.bipush 91, 2) := by decide +kernel
theorem dX7_readFactor_11 : decode cX7_readFactor 11 = .ok (.if_icmp .ne 51, 3) := by decide +kernel
theorem dX7_readFactor_14 : decode cX7_readFactor 14 = .ok (.aload_n 0, 1) := by decide +kernel
theorem dX7_readFactor_15 : decode cX7_readFactor 15 = .ok (.getfield 9, 3) := by decide +kernel
theorem dX7_readFactor_18 : decode cX7_readFactor 18 = .ok (.iload_n 1, 1) := by decide +kernel
theorem dX7_readFactor_19 : decode cX7_readFactor 19 = .ok (.invokevirtual 67, 3) := by decide +kernel
theorem dX7_readFactor_22 : decode cX7_readFactor 22 = .ok (.ifCond .ne 5, 3) := by decide +kernel
theorem dX7_readFactor_25 : decode cX7_readFactor 25 = .ok (.iconst 0, 1) := by decide +kernel
theorem dX7_readFactor_26 : decode cX7_readFactor 26 = .ok (.ireturn, 1) := by decide +kernel
theorem dX7_readFactor_27 : decode cX7_readFactor 27 = .ok (.aload_n 0, 1) := by decide +kernel
theorem dX7_readFactor_28 : decode cX7_readFactor 28 = .ok (.getfield 9, 3) := by decide +kernel
theorem dX7_readFactor_31 : decode cX7_readFactor 31 = .ok (.invokevirtual 53, 3) := by decide +kernel
theorem dX7_readFactor_34 : decode cX7_readFactor 34 = .ok (.aload_n 0, 1) := by decide +kernel
theorem dX7_readFactor_35 : decode cX7_readFactor 35 = .ok (.iload_n 1, 1) := by decide +kernel
theorem dX7_readFactor_36 : decode cX7_readFactor 36 = .ok (.iconst 1, 1) := by decide +kernel
theorem dX7_readFactor_37 : decode cX7_readFactor 37 = .ok (.iadd, 1) := by decide +kernel
theorem dX7_readFactor_38 : decode cX7_readFactor 38 = .ok (.invokevirtual 76, 3) := by decide +kernel
theorem dX7_readFactor_41 : decode cX7_readFactor 41 = .ok (.ifCond .eq 19, 3) := by decide +kernel
theorem dX7_readFactor_44 : decode cX7_readFactor 44 = .ok (.aload_n 0, 1) := by decide +kernel
theorem dX7_readFactor_45 : decode cX7_readFactor 45 = .ok (.getfield 9, 3) := by decide +kernel
theorem dX7_readFactor_48 : decode cX7_readFactor 48 = .ok (.bipush 93, 2) := by decide +kernel
theorem dX7_readFactor_50 : decode cX7_readFactor 50 = .ok (.invokevirtual 70, 3) := by decide +kernel
theorem dX7_readFactor_53 : decode cX7_readFactor 53 = .ok (.ifCond .eq 7, 3) := by decide +kernel
theorem dX7_readFactor_56 : decode cX7_readFactor 56 = .ok (.iconst 1, 1) := by decide +kernel
theorem dX7_readFactor_57 : decode cX7_readFactor 57 = .ok (.goto 4, 3) := by decide +kernel
theorem dX7_readFactor_60 : decode cX7_readFactor 60 = .ok (.iconst 0, 1) := by decide +kernel
theorem dX7_readFactor_61 : decode cX7_readFactor 61 = .ok (.ireturn, 1) := by decide +kernel
theorem dX7_readFactor_62 : decode cX7_readFactor 62 = .ok (.iload_n 2, 1) := by decide +kernel
theorem dX7_readFactor_63 : decode cX7_readFactor 63 = .ok (.bipush 48, 2) := by decide +kernel
theorem dX7_readFactor_65 : decode cX7_readFactor 65 = .ok (.bipush 57, 2) := by decide +kernel
theorem dX7_readFactor_67 : decode cX7_readFactor 67 = .ok (.invokestatic 59, 3) := by decide +kernel
theorem dX7_readFactor_70 : decode cX7_readFactor 70 = .ok (.ifCond .eq 8, 3) := by decide +kernel
theorem dX7_readFactor_73 : decode cX7_readFactor 73 = .ok (.aload_n 0, 1) := by decide +kernel
theorem dX7_readFactor_74 : decode cX7_readFactor 74 = .ok (.invokevirtual 94, 3) := by decide +kernel
theorem dX7_readFactor_77 : decode cX7_readFactor 77 = .ok (.ireturn, 1) := by decide +kernel
theorem dX7_readFactor_78 : decode cX7_readFactor 78 = .ok (.iload_n 2, 1) := by decide +kernel
theorem dX7_readFactor_79 : decode cX7_readFactor 79 = .ok (.invokestatic 97, 3) := by decide +kernel
theorem dX7_readFactor_82 : decode cX7_readFactor 82 = .ok (.istore_n 3, 1) := by decide +kernel
theorem dX7_readFactor_83 : decode cX7_readFactor 83 = .ok (.iload_n 3, 1) := by decide +kernel
theorem dX7_readFactor_84 : decode cX7_readFactor 84 = .ok (.iconst (-1), 1) := by decide +kernel
theorem dX7_readFactor_85 : decode cX7_readFactor 85 = .ok (.if_icmp .ne 12, 3) := by decide +kernel
theorem dX7_readFactor_88 : decode cX7_readFactor 88 = .ok (.aload_n 0, 1) := by decide +kernel
theorem dX7_readFactor_89 : decode cX7_readFactor 89 = .ok (.getfield 9, 3) := by decide +kernel
theorem dX7_readFactor_92 : decode cX7_readFactor 92 = .ok (.iconst 1, 1) := by decide +kernel
theorem dX7_readFactor_93 : decode cX7_readFactor 93 = .ok (.invokevirtual 79, 3) := by decide +kernel
theorem dX7_readFactor_96 : decode cX7_readFactor 96 = .ok (.ireturn, 1) := by decide +kernel
theorem dX7_readFactor_97 : decode cX7_readFactor 97 = .ok (.aload_n 0, 1) := by decide +kernel
theorem dX7_readFactor_98 : decode cX7_readFactor 98 = .ok (.getfield 15, 3) := by decide +kernel
theorem dX7_readFactor_101 : decode cX7_readFactor 101 = .ok (.iconst 1, 1) := by decide +kernel
theorem dX7_readFactor_102 : decode cX7_readFactor 102 = .ok (.iload_n 3, 1) := by decide +kernel
theorem dX7_readFactor_103 : decode cX7_readFactor 103 = .ok (.invokevirtual 49, 3) := by decide +kernel
theorem dX7_readFactor_106 : decode cX7_readFactor 106 = .ok (.pop, 1) := by decide +kernel
theorem dX7_readFactor_107 : decode cX7_readFactor 107 = .ok (.aload_n 0, 1) := by decide +kernel
theorem dX7_readFactor_108 : decode cX7_readFactor 108 = .ok (.getfield 9, 3) := by decide +kernel
theorem dX7_readFactor_111 : decode cX7_readFactor 111 = .ok (.invokevirtual 53, 3) := by decide +kernel
theorem dX7_readFactor_114 : decode cX7_readFactor 114 = .ok (.iconst 1, 1) := by decide +kernel
theorem dX7_readFactor_115 : decode cX7_readFactor 115 = .ok (.ireturn, 1) := by decide +kernel
theorem dX7_readNumber_0 : decode cX7_readNumber 0 = .ok (.iconst 0, 1) := by decide +kernel
theorem dX7_readNumber_1 : decode cX7_readNumber 1 = .ok (.istore_n 1, 1) := by decide +kernel
theorem dX7_readNumber_2 : decode cX7_readNumber 2 = .ok (.iconst 0, 1) := by decide +kernel
theorem dX7_readNumber_3 : decode cX7_readNumber 3 = .ok (.istore_n 2, 1) := by decide +kernel
theorem dX7_readNumber_4 : decode cX7_readNumber 4 = .ok (.iload_n 2, 1) := by decide +kernel
theorem dX7_readNumber_5 : decode cX7_readNumber 5 = .ok (.iconst 5, 1) := by decide +kernel
theorem dX7_readNumber_6 : decode cX7_readNumber 6 = .ok (.if_icmp .ge 49, 3) := by decide +kernel
theorem dX7_readNumber_9 : decode cX7_readNumber 9 = .ok (.aload_n 0, 1) := by decide +kernel
theorem dX7_readNumber_10 : decode cX7_readNumber 10 = .ok (.getfield 9, 3) := by decide +kernel
theorem dX7_readNumber_13 : decode cX7_readNumber 13 = .ok (.invokevirtual 42, 3) := by decide +kernel
theorem dX7_readNumber_16 : decode cX7_readNumber 16 = .ok (.bipush 48, 2) := by decide +kernel
theorem dX7_readNumber_18 : decode cX7_readNumber 18 = .ok (.bipush 57, 2) := by decide +kernel
theorem dX7_readNumber_20 : decode cX7_readNumber 20 = .ok (.invokestatic 59, 3) := by decide +kernel
theorem dX7_readNumber_23 : decode cX7_readNumber 23 = .ok (.ifCond .eq 32, 3) := by decide +kernel
theorem dX7_readNumber_26 : decode cX7_readNumber 26 = .ok (.bipush 10, 2) := by decide +kernel
theorem dX7_readNumber_28 : decode cX7_readNumber 28 = .ok (.iload_n 1, 1) := by decide +kernel
theorem dX7_readNumber_29 : decode cX7_readNumber 29 = .ok (.imul, 1) := by decide +kernel
theorem dX7_readNumber_30 : decode cX7_readNumber 30 = .ok (.aload_n 0, 1) := by decide +kernel
theorem dX7_readNumber_31 : decode cX7_readNumber 31 = .ok (.getfield 9, 3) := by decide +kernel
theorem dX7_readNumber_34 : decode cX7_readNumber 34 = .ok (.invokevirtual 42, 3) := by decide +kernel
theorem dX7_readNumber_37 : decode cX7_readNumber 37 = .ok (.iadd, 1) := by decide +kernel
theorem dX7_readNumber_38 : decode cX7_readNumber 38 = .ok (.bipush 48, 2) := by decide +kernel
theorem dX7_readNumber_40 : decode cX7_readNumber 40 = .ok (.isub, 1) := by decide +kernel
theorem dX7_readNumber_41 : decode cX7_readNumber 41 = .ok (.istore_n 1, 1) := by decide +kernel
theorem dX7_readNumber_42 : decode cX7_readNumber 42 = .ok (.aload_n 0, 1) := by decide +kernel
theorem dX7_readNumber_43 : decode cX7_readNumber 43 = .ok (.getfield 9, 3) := by decide +kernel
theorem dX7_readNumber_46 : decode cX7_readNumber 46 = .ok (.invokevirtual 53, 3) := by decide +kernel
theorem dX7_readNumber_49 : decode cX7_readNumber 49 = .ok (.iinc 2 1, 3) := by decide +kernel
theorem dX7_readNumber_52 : decode cX7_readNumber 52 = .ok (.goto (-48), 3) := by decide +kernel
theorem dX7_readNumber_55 : decode cX7_readNumber 55 = .ok (.aload_n 0, 1) := by decide +kernel
theorem dX7_readNumber_56 : decode cX7_readNumber 56 = .ok (.getfield 9, 3) := by decide +kernel
theorem dX7_readNumber_59 : decode cX7_readNumber 59 = .ok (.invokevirtual 42, 3) := by decide +kernel
theorem dX7_readNumber_62 : decode cX7_readNumber 62 = .ok (.bipush 48, 2) := by decide +kernel
theorem dX7_readNumber_64 : decode cX7_readNumber 64 = .ok (.bipush 57, 2) := by decide +kernel
theorem dX7_readNumber_66 : decode cX7_readNumber 66 = .ok (.invokestatic 59, 3) := by decide +kernel
theorem dX7_readNumber_69 : decode cX7_readNumber 69 = .ok (.ifCond .eq 12, 3) := by decide +kernel
theorem dX7_readNumber_72 : decode cX7_readNumber 72 = .ok (.aload_n 0, 1) := by decide +kernel
theorem dX7_readNumber_73 : decode cX7_readNumber 73 = .ok (.getfield 9, 3) := by decide +kernel
theorem dX7_readNumber_76 : decode cX7_readNumber 76 = .ok (.iconst 2, 1) := by decide +kernel
theorem dX7_readNumber_77 : decode cX7_readNumber 77 = .ok (.invokevirtual 79, 3) := by decide +kernel
theorem dX7_readNumber_80 : decode cX7_readNumber 80 = .ok (.ireturn, 1) := by decide +kernel
theorem dX7_readNumber_81 : decode cX7_readNumber 81 = .ok (.aload_n 0, 1) := by decide +kernel
theorem dX7_readNumber_82 : decode cX7_readNumber 82 = .ok (.getfield 15, 3) := by decide +kernel
theorem dX7_readNumber_85 : decode cX7_readNumber 85 = .ok (.iconst 0, 1) := by decide +kernel
theorem dX7_readNumber_86 : decode cX7_readNumber 86 = .ok (.iload_n 1, 1) := by decide +kernel
theorem dX7_readNumber_87 : decode cX7_readNumber 87 = .ok (.invokevirtual 49, 3) := by decide +kernel
theorem dX7_readNumber_90 : decode cX7_readNumber 90 = .ok (.pop, 1) := by decide +kernel
theorem dX7_readNumber_91 : decode cX7_readNumber 91 = .ok (.iconst 1, 1) := by decide +kernel
theorem dX7_readNumber_92 : decode cX7_readNumber 92 = .ok (.ireturn, 1) := by decide +kernel
theorem dX7_letterOf_0 : decode cX7_letterOf 0 = .ok (.iload_n 0, 1) := by decide +kernel
theorem dX7_letterOf_1 : decode cX7_letterOf 1 = .ok (.bipush 97, 2) := by decide +kernel
theorem dX7_letterOf_3 : decode cX7_letterOf 3 = .ok (.bipush 102, 2) := by decide +kernel
theorem dX7_letterOf_5 : decode cX7_letterOf 5 = .ok (.invokestatic 59, 3) := by decide +kernel
theorem dX7_letterOf_8 : decode cX7_letterOf 8 = .ok (.ifCond .eq 10, 3) := by decide +kernel
theorem dX7_letterOf_11 : decode cX7_letterOf 11 = .ok (.iload_n 0, 1) := by decide +kernel
theorem dX7_letterOf_12 : decode cX7_letterOf 12 = .ok (.bipush 97, 2) := by decide +kernel
theorem dX7_letterOf_14 : decode cX7_letterOf 14 = .ok (.isub, 1) := by decide +kernel
theorem dX7_letterOf_15 : decode cX7_letterOf 15 = .ok (.iconst 0, 1) := by decide +kernel
theorem dX7_letterOf_16 : decode cX7_letterOf 16 = .ok (.iadd, 1) := by decide +kernel
theorem dX7_letterOf_17 : decode cX7_letterOf 17 = .ok (.ireturn, 1) := by decide +kernel
theorem dX7_letterOf_18 : decode cX7_letterOf 18 = .ok (.iload_n 0, 1) := by decide +kernel
theorem dX7_letterOf_19 : decode cX7_letterOf 19 = .ok (.bipush 65, 2) := by decide +kernel
theorem dX7_letterOf_21 : decode cX7_letterOf 21 = .ok (.bipush 70, 2) := by decide +kernel
theorem dX7_letterOf_23 : decode cX7_letterOf 23 = .ok (.invokestatic 59, 3) := by decide +kernel
theorem dX7_letterOf_26 : decode cX7_letterOf 26 = .ok (.ifCond .eq 11, 3) := by decide +kernel
theorem dX7_letterOf_29 : decode cX7_letterOf 29 = .ok (.iload_n 0, 1) := by decide +kernel
theorem dX7_letterOf_30 : decode cX7_letterOf 30 = .ok (.bipush 65, 2) := by decide +kernel
theorem dX7_letterOf_32 : decode cX7_letterOf 32 = .ok (.isub, 1) := by decide +kernel
theorem dX7_letterOf_33 : decode cX7_letterOf 33 = .ok (.bipush 6, 2) := by decide +kernel
theorem dX7_letterOf_35 : decode cX7_letterOf 35 = .ok (.iadd, 1) := by decide +kernel
theorem dX7_letterOf_36 : decode cX7_letterOf 36 = .ok (.ireturn, 1) := by decide +kernel
theorem dX7_letterOf_37 : decode cX7_letterOf 37 = .ok (.iload_n 0, 1) := by decide +kernel
theorem dX7_letterOf_38 : decode cX7_letterOf 38 = .ok (.tableswitch 62 107 115 #[59, 53, 62, 56, 62, 62, 62, 62, 50], 50) := by decide +kernel
theorem dX7_letterOf_88 : decode cX7_letterOf 88 = .ok (.bipush 12, 2) := by decide +kernel
theorem dX7_letterOf_90 : decode cX7_letterOf 90 = .ok (.ireturn, 1) := by decide +kernel
theorem dX7_letterOf_91 : decode cX7_letterOf 91 = .ok (.bipush 13, 2) := by decide +kernel
theorem dX7_letterOf_93 : decode cX7_letterOf 93 = .ok (.ireturn, 1) := by decide +kernel
theorem dX7_letterOf_94 : decode cX7_letterOf 94 = .ok (.bipush 14, 2) := by decide +kernel
theorem dX7_letterOf_96 : decode cX7_letterOf 96 = .ok (.ireturn, 1) := by decide +kernel
theorem dX7_letterOf_97 : decode cX7_letterOf 97 = .ok (.bipush 15, 2) := by decide +kernel
theorem dX7_letterOf_99 : decode cX7_letterOf 99 = .ok (.ireturn, 1) := by decide +kernel
theorem dX7_letterOf_100 : decode cX7_letterOf 100 = .ok (.iconst (-1), 1) := by decide +kernel
theorem dX7_letterOf_101 : decode cX7_letterOf 101 = .ok (.ireturn, 1) := by decide +kernel
theorem dX8_init_0 : decode cX8_init 0 = .ok (.aload_n 0, 1) := by decide +kernel
theorem dX8_init_1 : decode cX8_init 1 = .ok (.invokespecial 3, 3) := by decide +kernel
theorem dX8_init_4 : decode cX8_init 4 = .ok (.aload_n 0, 1) := by decide +kernel
theorem dX8_init_5 : decode cX8_init 5 = .ok (.bipush 6, 2) := by decide +kernel
theorem dX8_init_7 : decode cX8_init 7 = .ok (.newarray .int, 2) := by decide +kernel
theorem dX8_init_9 : decode cX8_init 9 = .ok (.putfield 9, 3) := by decide +kernel
theorem dX8_init_12 : decode cX8_init 12 = .ok (.aload_n 0, 1) := by decide +kernel
theorem dX8_init_13 : decode cX8_init 13 = .ok (.bipush 6, 2) := by decide +kernel
theorem dX8_init_15 : decode cX8_init 15 = .ok (.newarray .int, 2) := by decide +kernel
theorem dX8_init_17 : decode cX8_init 17 = .ok (.putfield 15, 3) := by decide +kernel
theorem dX8_init_20 : decode cX8_init 20 = .ok (.aload_n 0, 1) := by decide +kernel
theorem dX8_init_21 : decode cX8_init 21 = .ok (.aload_n 1, 1) := by decide +kernel
theorem dX8_init_22 : decode cX8_init 22 = .ok (.putfield 18, 3) := by decide +kernel
theorem dX8_init_25 : decode cX8_init 25 = .ok (.aload_n 0, 1) := by decide +kernel
theorem dX8_init_26 : decode cX8_init 26 = .ok (.aload_n 2, 1) := by decide +kernel
theorem dX8_init_27 : decode cX8_init 27 = .ok (.putfield 22, 3) := by decide +kernel
theorem dX8_init_30 : decode cX8_init 30 = .ok (.aload_n 0, 1) := by decide +kernel
theorem dX8_init_31 : decode cX8_init 31 = .ok (.aload_n 3, 1) := by decide +kernel
theorem dX8_init_32 : decode cX8_init 32 = .ok (.putfield 26, 3) := by decide +kernel
theorem dX8_init_35 : decode cX8_init 35 = .ok (.return_, 1) := by decide +kernel
theorem dX8_lay_0 : decode cX8_lay 0 = .ok (.aload_n 0, 1) := by decide +kernel
theorem dX8_lay_1 : decode cX8_lay 1 = .ok (.iconst 1, 1) := by decide +kernel
theorem dX8_lay_2 : decode cX8_lay 2 = .ok (.putfield 29, 3) := by decide +kernel
theorem dX8_lay_5 : decode cX8_lay 5 = .ok (.iconst 0, 1) := by decide +kernel
theorem dX8_lay_6 : decode cX8_lay 6 = .ok (.istore_n 3, 1) := by decide +kernel
theorem dX8_lay_7 : decode cX8_lay 7 = .ok (.iload_n 3, 1) := by decide +kernel
theorem dX8_lay_8 : decode cX8_lay 8 = .ok (.bipush 6, 2) := by decide +kernel
theorem dX8_lay_10 : decode cX8_lay 10 = .ok (.if_icmp .ge 93, 3) := by decide +kernel
theorem dX8_lay_13 : decode cX8_lay 13 = .ok (.iload_n 1, 1) := by decide +kernel
theorem dX8_lay_14 : decode cX8_lay 14 = .ok (.iload_n 3, 1) := by decide +kernel
theorem dX8_lay_15 : decode cX8_lay 15 = .ok (.ishr, 1) := by decide +kernel
theorem dX8_lay_16 : decode cX8_lay 16 = .ok (.iconst 1, 1) := by decide +kernel
theorem dX8_lay_17 : decode cX8_lay 17 = .ok (.iand, 1) := by decide +kernel
theorem dX8_lay_18 : decode cX8_lay 18 = .ok (.ifCond .eq 7, 3) := by decide +kernel
theorem dX8_lay_21 : decode cX8_lay 21 = .ok (.iconst 1, 1) := by decide +kernel
theorem dX8_lay_22 : decode cX8_lay 22 = .ok (.goto 4, 3) := by decide +kernel
theorem dX8_lay_25 : decode cX8_lay 25 = .ok (.iconst 0, 1) := by decide +kernel
theorem dX8_lay_26 : decode cX8_lay 26 = .ok (.istore 4, 2) := by decide +kernel
theorem dX8_lay_28 : decode cX8_lay 28 = .ok (.aload_n 0, 1) := by decide +kernel
theorem dX8_lay_29 : decode cX8_lay 29 = .ok (.getfield 15, 3) := by decide +kernel
theorem dX8_lay_32 : decode cX8_lay 32 = .ok (.iload_n 3, 1) := by decide +kernel
theorem dX8_lay_33 : decode cX8_lay 33 = .ok (.iload 4, 2) := by decide +kernel
theorem dX8_lay_35 : decode cX8_lay 35 = .ok (.ifCond .eq 21, 3) := by decide +kernel
theorem dX8_lay_38 : decode cX8_lay 38 = .ok (.iload_n 2, 1) := by decide +kernel
theorem dX8_lay_39 : decode cX8_lay 39 = .ok (.aload_n 0, 1) := by decide +kernel
theorem dX8_lay_40 : decode cX8_lay 40 = .ok (.getfield 18, 3) := by decide +kernel
theorem dX8_lay_43 : decode cX8_lay 43 = .ok (.getfield 33, 3) := by decide +kernel
theorem dX8_lay_46 : decode cX8_lay 46 = .ok (.iload_n 3, 1) := by decide +kernel
theorem dX8_lay_47 : decode cX8_lay 47 = .ok (.iaload, 1) := by decide +kernel
theorem dX8_lay_48 : decode cX8_lay 48 = .ok (.invokestatic 38, 3) := by decide +kernel
theorem dX8_lay_51 : decode cX8_lay 51 = .ok (.iconst 1, 1) := by decide +kernel
theorem dX8_lay_52 : decode cX8_lay 52 = .ok (.iadd, 1) := by decide +kernel
theorem dX8_lay_53 : decode cX8_lay 53 = .ok (.goto 4, 3) := by decide +kernel
theorem dX8_lay_56 : decode cX8_lay 56 = .ok (.iconst 1, 1) := by decide +kernel
theorem dX8_lay_57 : decode cX8_lay 57 = .ok (.iastore, 1) := by decide +kernel
theorem dX8_lay_58 : decode cX8_lay 58 = .ok (.aload_n 0, 1) := by decide +kernel
theorem dX8_lay_59 : decode cX8_lay 59 = .ok (.getfield 9, 3) := by decide +kernel
theorem dX8_lay_62 : decode cX8_lay 62 = .ok (.iload_n 3, 1) := by decide +kernel
theorem dX8_lay_63 : decode cX8_lay 63 = .ok (.iload 4, 2) := by decide +kernel
theorem dX8_lay_65 : decode cX8_lay 65 = .ok (.ifCond .eq 7, 3) := by decide +kernel
theorem dX8_lay_68 : decode cX8_lay 68 = .ok (.iconst 0, 1) := by decide +kernel
theorem dX8_lay_69 : decode cX8_lay 69 = .ok (.goto 12, 3) := by decide +kernel
theorem dX8_lay_72 : decode cX8_lay 72 = .ok (.aload_n 0, 1) := by decide +kernel
theorem dX8_lay_73 : decode cX8_lay 73 = .ok (.getfield 18, 3) := by decide +kernel
theorem dX8_lay_76 : decode cX8_lay 76 = .ok (.getfield 44, 3) := by decide +kernel
theorem dX8_lay_79 : decode cX8_lay 79 = .ok (.iload_n 3, 1) := by decide +kernel
theorem dX8_lay_80 : decode cX8_lay 80 = .ok (.iaload, 1) := by decide +kernel
theorem dX8_lay_81 : decode cX8_lay 81 = .ok (.iastore, 1) := by decide +kernel
theorem dX8_lay_82 : decode cX8_lay 82 = .ok (.aload_n 0, 1) := by decide +kernel
theorem dX8_lay_83 : decode cX8_lay 83 = .ok (.dup, 1) := by decide +kernel
theorem dX8_lay_84 : decode cX8_lay 84 = .ok (.getfield 29, 3) := by decide +kernel
theorem dX8_lay_87 : decode cX8_lay 87 = .ok (.aload_n 0, 1) := by decide +kernel
theorem dX8_lay_88 : decode cX8_lay 88 = .ok (.getfield 15, 3) := by decide +kernel
theorem dX8_lay_91 : decode cX8_lay 91 = .ok (.iload_n 3, 1) := by decide +kernel
theorem dX8_lay_92 : decode cX8_lay 92 = .ok (.iaload, 1) := by decide +kernel
theorem dX8_lay_93 : decode cX8_lay 93 = .ok (.imul, 1) := by decide +kernel
theorem dX8_lay_94 : decode cX8_lay 94 = .ok (.putfield 29, 3) := by decide +kernel
theorem dX8_lay_97 : decode cX8_lay 97 = .ok (.iinc 3 1, 3) := by decide +kernel
theorem dX8_lay_100 : decode cX8_lay 100 = .ok (.goto (-93), 3) := by decide +kernel
theorem dX8_lay_103 : decode cX8_lay 103 = .ok (.return_, 1) := by decide +kernel
theorem dX8_goOn_0 : decode cX8_goOn 0 = .ok (.iconst 5, 1) := by decide +kernel
theorem dX8_goOn_1 : decode cX8_goOn 1 = .ok (.istore_n 1, 1) := by decide +kernel
theorem dX8_goOn_2 : decode cX8_goOn 2 = .ok (.iload_n 1, 1) := by decide +kernel
theorem dX8_goOn_3 : decode cX8_goOn 3 = .ok (.ifCond .lt 52, 3) := by decide +kernel
theorem dX8_goOn_6 : decode cX8_goOn 6 = .ok (.aload_n 0, 1) := by decide +kernel
theorem dX8_goOn_7 : decode cX8_goOn 7 = .ok (.getfield 15, 3) := by decide +kernel
theorem dX8_goOn_10 : decode cX8_goOn 10 = .ok (.iload_n 1, 1) := by decide +kernel
theorem dX8_goOn_11 : decode cX8_goOn 11 = .ok (.iaload, 1) := by decide +kernel
theorem dX8_goOn_12 : decode cX8_goOn 12 = .ok (.iconst 1, 1) := by decide +kernel
theorem dX8_goOn_13 : decode cX8_goOn 13 = .ok (.if_icmp .le 36, 3) := by decide +kernel
theorem dX8_goOn_16 : decode cX8_goOn 16 = .ok (.aload_n 0, 1) := by decide +kernel
theorem dX8_goOn_17 : decode cX8_goOn 17 = .ok (.getfield 9, 3) := by decide +kernel
theorem dX8_goOn_20 : decode cX8_goOn 20 = .ok (.iload_n 1, 1) := by decide +kernel
theorem dX8_goOn_21 : decode cX8_goOn 21 = .ok (.dup2, 1) := by decide +kernel
theorem dX8_goOn_22 : decode cX8_goOn 22 = .ok (.iaload, 1) := by decide +kernel
theorem dX8_goOn_23 : decode cX8_goOn 23 = .ok (.iconst 1, 1) := by decide +kernel
theorem dX8_goOn_24 : decode cX8_goOn 24 = .ok (.iadd, 1) := by decide +kernel
theorem dX8_goOn_25 : decode cX8_goOn 25 = .ok (.iastore, 1) := by decide +kernel
theorem dX8_goOn_26 : decode cX8_goOn 26 = .ok (.aload_n 0, 1) := by decide +kernel
theorem dX8_goOn_27 : decode cX8_goOn 27 = .ok (.getfield 9, 3) := by decide +kernel
theorem dX8_goOn_30 : decode cX8_goOn 30 = .ok (.iload_n 1, 1) := by decide +kernel
theorem dX8_goOn_31 : decode cX8_goOn 31 = .ok (.iaload, 1) := by decide +kernel
theorem dX8_goOn_32 : decode cX8_goOn 32 = .ok (.aload_n 0, 1) := by decide +kernel
theorem dX8_goOn_33 : decode cX8_goOn 33 = .ok (.getfield 15, 3) := by decide +kernel
theorem dX8_goOn_36 : decode cX8_goOn 36 = .ok (.iload_n 1, 1) := by decide +kernel
theorem dX8_goOn_37 : decode cX8_goOn 37 = .ok (.iaload, 1) := by decide +kernel
theorem dX8_goOn_38 : decode cX8_goOn 38 = .ok (.if_icmp .ge 4, 3) := by decide +kernel
theorem dX8_goOn_41 : decode cX8_goOn 41 = .ok (.return_, 1) := by decide +kernel
theorem dX8_goOn_42 : decode cX8_goOn 42 = .ok (.aload_n 0, 1) := by decide +kernel
theorem dX8_goOn_43 : decode cX8_goOn 43 = .ok (.getfield 9, 3) := by decide +kernel
theorem dX8_goOn_46 : decode cX8_goOn 46 = .ok (.iload_n 1, 1) := by decide +kernel
theorem dX8_goOn_47 : decode cX8_goOn 47 = .ok (.iconst 0, 1) := by decide +kernel
theorem dX8_goOn_48 : decode cX8_goOn 48 = .ok (.iastore, 1) := by decide +kernel
theorem dX8_goOn_49 : decode cX8_goOn 49 = .ok (.iinc 1 (-1), 3) := by decide +kernel
theorem dX8_goOn_52 : decode cX8_goOn 52 = .ok (.goto (-50), 3) := by decide +kernel
theorem dX8_goOn_55 : decode cX8_goOn 55 = .ok (.return_, 1) := by decide +kernel
theorem dX8_unproved_0 : decode cX8_unproved 0 = .ok (.iconst 0, 1) := by decide +kernel
theorem dX8_unproved_1 : decode cX8_unproved 1 = .ok (.istore 4, 2) := by decide +kernel
theorem dX8_unproved_3 : decode cX8_unproved 3 = .ok (.iconst 0, 1) := by decide +kernel
theorem dX8_unproved_4 : decode cX8_unproved 4 = .ok (.istore 5, 2) := by decide +kernel
theorem dX8_unproved_6 : decode cX8_unproved 6 = .ok (.iload 5, 2) := by decide +kernel
theorem dX8_unproved_8 : decode cX8_unproved 8 = .ok (.aload_n 0, 1) := by decide +kernel
theorem dX8_unproved_9 : decode cX8_unproved 9 = .ok (.getfield 29, 3) := by decide +kernel
theorem dX8_unproved_12 : decode cX8_unproved 12 = .ok (.if_icmp .ge 48, 3) := by decide +kernel
theorem dX8_unproved_15 : decode cX8_unproved 15 = .ok (.aload_n 0, 1) := by decide +kernel
theorem dX8_unproved_16 : decode cX8_unproved 16 = .ok (.aload_n 0, 1) := by decide +kernel
theorem dX8_unproved_17 : decode cX8_unproved 17 = .ok (.getfield 22, 3) := by decide +kernel
theorem dX8_unproved_20 : decode cX8_unproved 20 = .ok (.aload_n 1, 1) := by decide +kernel
theorem dX8_unproved_21 : decode cX8_unproved 21 = .ok (.invokevirtual 47, 3) := by decide +kernel
theorem dX8_unproved_24 : decode cX8_unproved 24 = .ok (.aload_n 2, 1) := by decide +kernel
theorem dX8_unproved_25 : decode cX8_unproved 25 = .ok (.aload_n 0, 1) := by decide +kernel
theorem dX8_unproved_26 : decode cX8_unproved 26 = .ok (.getfield 22, 3) := by decide +kernel
theorem dX8_unproved_29 : decode cX8_unproved 29 = .ok (.invokevirtual 51, 3) := by decide +kernel
theorem dX8_unproved_32 : decode cX8_unproved 32 = .ok (.ifCond .ne 18, 3) := by decide +kernel
theorem dX8_unproved_35 : decode cX8_unproved 35 = .ok (.iload_n 3, 1) := by decide +kernel
theorem dX8_unproved_36 : decode cX8_unproved 36 = .ok (.iconst (-1), 1) := by decide +kernel
theorem dX8_unproved_37 : decode cX8_unproved 37 = .ok (.if_icmp .eq 10, 3) := by decide +kernel
theorem dX8_unproved_40 : decode cX8_unproved 40 = .ok (.aload_n 0, 1) := by decide +kernel
theorem dX8_unproved_41 : decode cX8_unproved 41 = .ok (.getfield 9, 3) := by decide +kernel
theorem dX8_unproved_44 : decode cX8_unproved 44 = .ok (.iload_n 3, 1) := by decide +kernel
theorem dX8_unproved_45 : decode cX8_unproved 45 = .ok (.iaload, 1) := by decide +kernel
theorem dX8_unproved_46 : decode cX8_unproved 46 = .ok (.ireturn, 1) := by decide +kernel
theorem dX8_unproved_47 : decode cX8_unproved 47 = .ok (.iinc 4 1, 3) := by decide +kernel
theorem dX8_unproved_50 : decode cX8_unproved 50 = .ok (.aload_n 0, 1) := by decide +kernel
theorem dX8_unproved_51 : decode cX8_unproved 51 = .ok (.invokevirtual 57, 3) := by decide +kernel
theorem dX8_unproved_54 : decode cX8_unproved 54 = .ok (.iinc 5 1, 3) := by decide +kernel
theorem dX8_unproved_57 : decode cX8_unproved 57 = .ok (.goto (-51), 3) := by decide +kernel
theorem dX8_unproved_60 : decode cX8_unproved 60 = .ok (.iload_n 3, 1) := by decide +kernel
theorem dX8_unproved_61 : decode cX8_unproved 61 = .ok (.iconst (-1), 1) := by decide +kernel
theorem dX8_unproved_62 : decode cX8_unproved 62 = .ok (.if_icmp .ne 8, 3) := by decide +kernel
theorem dX8_unproved_65 : decode cX8_unproved 65 = .ok (.iload 4, 2) := by decide +kernel
theorem dX8_unproved_67 : decode cX8_unproved 67 = .ok (.goto 5, 3) := by decide +kernel
theorem dX8_unproved_70 : decode cX8_unproved 70 = .ok (.bipush (-2), 2) := by decide +kernel
theorem dX8_unproved_72 : decode cX8_unproved 72 = .ok (.ireturn, 1) := by decide +kernel
theorem dX8_unlike_0 : decode cX8_unlike 0 = .ok (.iconst 0, 1) := by decide +kernel
theorem dX8_unlike_1 : decode cX8_unlike 1 = .ok (.istore 4, 2) := by decide +kernel
theorem dX8_unlike_3 : decode cX8_unlike 3 = .ok (.iconst 0, 1) := by decide +kernel
theorem dX8_unlike_4 : decode cX8_unlike 4 = .ok (.istore 5, 2) := by decide +kernel
theorem dX8_unlike_6 : decode cX8_unlike 6 = .ok (.iload 5, 2) := by decide +kernel
theorem dX8_unlike_8 : decode cX8_unlike 8 = .ok (.aload_n 0, 1) := by decide +kernel
theorem dX8_unlike_9 : decode cX8_unlike 9 = .ok (.getfield 29, 3) := by decide +kernel
theorem dX8_unlike_12 : decode cX8_unlike 12 = .ok (.if_icmp .ge 77, 3) := by decide +kernel
theorem dX8_unlike_15 : decode cX8_unlike 15 = .ok (.aload_n 0, 1) := by decide +kernel
theorem dX8_unlike_16 : decode cX8_unlike 16 = .ok (.aload_n 0, 1) := by decide +kernel
theorem dX8_unlike_17 : decode cX8_unlike 17 = .ok (.getfield 22, 3) := by decide +kernel
theorem dX8_unlike_20 : decode cX8_unlike 20 = .ok (.aload_n 1, 1) := by decide +kernel
theorem dX8_unlike_21 : decode cX8_unlike 21 = .ok (.invokevirtual 47, 3) := by decide +kernel
theorem dX8_unlike_24 : decode cX8_unlike 24 = .ok (.aload_n 0, 1) := by decide +kernel
theorem dX8_unlike_25 : decode cX8_unlike 25 = .ok (.aload_n 0, 1) := by decide +kernel
theorem dX8_unlike_26 : decode cX8_unlike 26 = .ok (.getfield 26, 3) := by decide +kernel
theorem dX8_unlike_29 : decode cX8_unlike 29 = .ok (.aload_n 2, 1) := by decide +kernel
theorem dX8_unlike_30 : decode cX8_unlike 30 = .ok (.invokevirtual 47, 3) := by decide +kernel
theorem dX8_unlike_33 : decode cX8_unlike 33 = .ok (.aload_n 0, 1) := by decide +kernel
theorem dX8_unlike_34 : decode cX8_unlike 34 = .ok (.getfield 22, 3) := by decide +kernel
theorem dX8_unlike_37 : decode cX8_unlike 37 = .ok (.getfield 60, 3) := by decide +kernel
theorem dX8_unlike_40 : decode cX8_unlike 40 = .ok (.aload_n 0, 1) := by decide +kernel
theorem dX8_unlike_41 : decode cX8_unlike 41 = .ok (.getfield 26, 3) := by decide +kernel
theorem dX8_unlike_44 : decode cX8_unlike 44 = .ok (.getfield 60, 3) := by decide +kernel
theorem dX8_unlike_47 : decode cX8_unlike 47 = .ok (.if_icmp .ne 17, 3) := by decide +kernel
theorem dX8_unlike_50 : decode cX8_unlike 50 = .ok (.aload_n 0, 1) := by decide +kernel
theorem dX8_unlike_51 : decode cX8_unlike 51 = .ok (.getfield 22, 3) := by decide +kernel
theorem dX8_unlike_54 : decode cX8_unlike 54 = .ok (.aload_n 0, 1) := by decide +kernel
theorem dX8_unlike_55 : decode cX8_unlike 55 = .ok (.getfield 26, 3) := by decide +kernel
theorem dX8_unlike_58 : decode cX8_unlike 58 = .ok (.invokevirtual 65, 3) := by decide +kernel
theorem dX8_unlike_61 : decode cX8_unlike 61 = .ok (.ifCond .ne 18, 3) := by decide +kernel
theorem dX8_unlike_64 : decode cX8_unlike 64 = .ok (.iload_n 3, 1) := by decide +kernel
theorem dX8_unlike_65 : decode cX8_unlike 65 = .ok (.iconst (-1), 1) := by decide +kernel
theorem dX8_unlike_66 : decode cX8_unlike 66 = .ok (.if_icmp .eq 10, 3) := by decide +kernel
theorem dX8_unlike_69 : decode cX8_unlike 69 = .ok (.aload_n 0, 1) := by decide +kernel
theorem dX8_unlike_70 : decode cX8_unlike 70 = .ok (.getfield 9, 3) := by decide +kernel
theorem dX8_unlike_73 : decode cX8_unlike 73 = .ok (.iload_n 3, 1) := by decide +kernel
theorem dX8_unlike_74 : decode cX8_unlike 74 = .ok (.iaload, 1) := by decide +kernel
theorem dX8_unlike_75 : decode cX8_unlike 75 = .ok (.ireturn, 1) := by decide +kernel
theorem dX8_unlike_76 : decode cX8_unlike 76 = .ok (.iinc 4 1, 3) := by decide +kernel
theorem dX8_unlike_79 : decode cX8_unlike 79 = .ok (.aload_n 0, 1) := by decide +kernel
theorem dX8_unlike_80 : decode cX8_unlike 80 = .ok (.invokevirtual 57, 3) := by decide +kernel
theorem dX8_unlike_83 : decode cX8_unlike 83 = .ok (.iinc 5 1, 3) := by decide +kernel
theorem dX8_unlike_86 : decode cX8_unlike 86 = .ok (.goto (-80), 3) := by decide +kernel
theorem dX8_unlike_89 : decode cX8_unlike 89 = .ok (.iload_n 3, 1) := by decide +kernel
theorem dX8_unlike_90 : decode cX8_unlike 90 = .ok (.iconst (-1), 1) := by decide +kernel
theorem dX8_unlike_91 : decode cX8_unlike 91 = .ok (.if_icmp .ne 8, 3) := by decide +kernel
theorem dX8_unlike_94 : decode cX8_unlike 94 = .ok (.iload 4, 2) := by decide +kernel
theorem dX8_unlike_96 : decode cX8_unlike 96 = .ok (.goto 5, 3) := by decide +kernel
theorem dX8_unlike_99 : decode cX8_unlike 99 = .ok (.bipush (-2), 2) := by decide +kernel
theorem dX8_unlike_101 : decode cX8_unlike 101 = .ok (.ireturn, 1) := by decide +kernel
theorem dX8_coloured_0 : decode cX8_coloured 0 = .ok (.iconst 0, 1) := by decide +kernel
theorem dX8_coloured_1 : decode cX8_coloured 1 = .ok (.istore 4, 2) := by decide +kernel
theorem dX8_coloured_3 : decode cX8_coloured 3 = .ok (.iconst 0, 1) := by decide +kernel
theorem dX8_coloured_4 : decode cX8_coloured 4 = .ok (.istore 5, 2) := by decide +kernel
theorem dX8_coloured_6 : decode cX8_coloured 6 = .ok (.iload 5, 2) := by decide +kernel
theorem dX8_coloured_8 : decode cX8_coloured 8 = .ok (.aload_n 0, 1) := by decide +kernel
theorem dX8_coloured_9 : decode cX8_coloured 9 = .ok (.getfield 29, 3) := by decide +kernel
theorem dX8_coloured_12 : decode cX8_coloured 12 = .ok (.if_icmp .ge 48, 3) := by decide +kernel
theorem dX8_coloured_15 : decode cX8_coloured 15 = .ok (.aload_n 0, 1) := by decide +kernel
theorem dX8_coloured_16 : decode cX8_coloured 16 = .ok (.aload_n 0, 1) := by decide +kernel
theorem dX8_coloured_17 : decode cX8_coloured 17 = .ok (.getfield 22, 3) := by decide +kernel
theorem dX8_coloured_20 : decode cX8_coloured 20 = .ok (.aload_n 1, 1) := by decide +kernel
theorem dX8_coloured_21 : decode cX8_coloured 21 = .ok (.invokevirtual 47, 3) := by decide +kernel
theorem dX8_coloured_24 : decode cX8_coloured 24 = .ok (.aload_n 0, 1) := by decide +kernel
theorem dX8_coloured_25 : decode cX8_coloured 25 = .ok (.getfield 22, 3) := by decide +kernel
theorem dX8_coloured_28 : decode cX8_coloured 28 = .ok (.getfield 68, 3) := by decide +kernel
theorem dX8_coloured_31 : decode cX8_coloured 31 = .ok (.iload_n 2, 1) := by decide +kernel
theorem dX8_coloured_32 : decode cX8_coloured 32 = .ok (.if_icmp .ne 18, 3) := by decide +kernel
theorem dX8_coloured_35 : decode cX8_coloured 35 = .ok (.iload_n 3, 1) := by decide +kernel
theorem dX8_coloured_36 : decode cX8_coloured 36 = .ok (.iconst (-1), 1) := by decide +kernel
theorem dX8_coloured_37 : decode cX8_coloured 37 = .ok (.if_icmp .eq 10, 3) := by decide +kernel
theorem dX8_coloured_40 : decode cX8_coloured 40 = .ok (.aload_n 0, 1) := by decide +kernel
theorem dX8_coloured_41 : decode cX8_coloured 41 = .ok (.getfield 9, 3) := by decide +kernel
theorem dX8_coloured_44 : decode cX8_coloured 44 = .ok (.iload_n 3, 1) := by decide +kernel
theorem dX8_coloured_45 : decode cX8_coloured 45 = .ok (.iaload, 1) := by decide +kernel
theorem dX8_coloured_46 : decode cX8_coloured 46 = .ok (.ireturn, 1) := by decide +kernel
theorem dX8_coloured_47 : decode cX8_coloured 47 = .ok (.iinc 4 1, 3) := by decide +kernel
theorem dX8_coloured_50 : decode cX8_coloured 50 = .ok (.aload_n 0, 1) := by decide +kernel
theorem dX8_coloured_51 : decode cX8_coloured 51 = .ok (.invokevirtual 57, 3) := by decide +kernel
theorem dX8_coloured_54 : decode cX8_coloured 54 = .ok (.iinc 5 1, 3) := by decide +kernel
theorem dX8_coloured_57 : decode cX8_coloured 57 = .ok (.goto (-51), 3) := by decide +kernel
theorem dX8_coloured_60 : decode cX8_coloured 60 = .ok (.iload_n 3, 1) := by decide +kernel
theorem dX8_coloured_61 : decode cX8_coloured 61 = .ok (.iconst (-1), 1) := by decide +kernel
theorem dX8_coloured_62 : decode cX8_coloured 62 = .ok (.if_icmp .ne 8, 3) := by decide +kernel
theorem dX8_coloured_65 : decode cX8_coloured 65 = .ok (.iload 4, 2) := by decide +kernel
theorem dX8_coloured_67 : decode cX8_coloured 67 = .ok (.goto 5, 3) := by decide +kernel
theorem dX8_coloured_70 : decode cX8_coloured 70 = .ok (.bipush (-2), 2) := by decide +kernel
theorem dX8_coloured_72 : decode cX8_coloured 72 = .ok (.ireturn, 1) := by decide +kernel
theorem dX8_follow_0 : decode cX8_follow 0 = .ok (.aload_n 1, 1) := by decide +kernel
theorem dX8_follow_1 : decode cX8_follow 1 = .ok (.aload_n 0, 1) := by decide +kernel
theorem dX8_follow_2 : decode cX8_follow 2 = .ok (.getfield 9, 3) := by decide +kernel
theorem dX8_follow_5 : decode cX8_follow 5 = .ok (.iconst 0, 1) := by decide +kernel
theorem dX8_follow_6 : decode cX8_follow 6 = .ok (.invokevirtual 71, 3) := by decide +kernel
theorem dX8_follow_9 : decode cX8_follow 9 = .ok (.aload_n 1, 1) := by decide +kernel
theorem dX8_follow_10 : decode cX8_follow 10 = .ok (.aload_n 2, 1) := by decide +kernel
theorem dX8_follow_11 : decode cX8_follow 11 = .ok (.sipush 2000, 3) := by decide +kernel
theorem dX8_follow_14 : decode cX8_follow 14 = .ok (.invokevirtual 75, 3) := by decide +kernel
theorem dX8_follow_17 : decode cX8_follow 17 = .ok (.return_, 1) := by decide +kernel
theorem dX9_init_0 : decode cX9_init 0 = .ok (.aload_n 0, 1) := by decide +kernel
theorem dX9_init_1 : decode cX9_init 1 = .ok (.invokespecial 3, 3) := by decide +kernel
theorem dX9_init_4 : decode cX9_init 4 = .ok (.aload_n 0, 1) := by decide +kernel
theorem dX9_init_5 : decode cX9_init 5 = .ok (.sipush 160, 3) := by decide +kernel
theorem dX9_init_8 : decode cX9_init 8 = .ok (.newarray .byte, 2) := by decide +kernel
theorem dX9_init_10 : decode cX9_init 10 = .ok (.putfield 11, 3) := by decide +kernel
theorem dX9_init_13 : decode cX9_init 13 = .ok (.return_, 1) := by decide +kernel
theorem dX9_hasRoom_0 : decode cX9_hasRoom 0 = .ok (.aload_n 0, 1) := by decide +kernel
theorem dX9_hasRoom_1 : decode cX9_hasRoom 1 = .ok (.getfield 15, 3) := by decide +kernel
theorem dX9_hasRoom_4 : decode cX9_hasRoom 4 = .ok (.bipush 20, 2) := by decide +kernel
theorem dX9_hasRoom_6 : decode cX9_hasRoom 6 = .ok (.iadd, 1) := by decide +kernel
theorem dX9_hasRoom_7 : decode cX9_hasRoom 7 = .ok (.sipush 160, 3) := by decide +kernel
theorem dX9_hasRoom_10 : decode cX9_hasRoom 10 = .ok (.if_icmp .gt 7, 3) := by decide +kernel
theorem dX9_hasRoom_13 : decode cX9_hasRoom 13 = .ok (.iconst 1, 1) := by decide +kernel
theorem dX9_hasRoom_14 : decode cX9_hasRoom 14 = .ok (.goto 4, 3) := by decide +kernel
theorem dX9_hasRoom_17 : decode cX9_hasRoom 17 = .ok (.iconst 0, 1) := by decide +kernel
theorem dX9_hasRoom_18 : decode cX9_hasRoom 18 = .ok (.ireturn, 1) := by decide +kernel
theorem dX9_add_0 : decode cX9_add 0 = .ok (.bipush 24, 2) := by decide +kernel
theorem dX9_add_2 : decode cX9_add 2 = .ok (.istore_n 2, 1) := by decide +kernel
theorem dX9_add_3 : decode cX9_add 3 = .ok (.iload_n 2, 1) := by decide +kernel
theorem dX9_add_4 : decode cX9_add 4 = .ok (.ifCond .lt 42, 3) := by decide +kernel
theorem dX9_add_7 : decode cX9_add 7 = .ok (.aload_n 0, 1) := by decide +kernel
theorem dX9_add_8 : decode cX9_add 8 = .ok (.getfield 15, 3) := by decide +kernel
theorem dX9_add_11 : decode cX9_add 11 = .ok (.sipush 160, 3) := by decide +kernel
theorem dX9_add_14 : decode cX9_add 14 = .ok (.if_icmp .ge 32, 3) := by decide +kernel
theorem dX9_add_17 : decode cX9_add 17 = .ok (.aload_n 0, 1) := by decide +kernel
theorem dX9_add_18 : decode cX9_add 18 = .ok (.getfield 11, 3) := by decide +kernel
theorem dX9_add_21 : decode cX9_add 21 = .ok (.aload_n 0, 1) := by decide +kernel
theorem dX9_add_22 : decode cX9_add 22 = .ok (.getfield 15, 3) := by decide +kernel
theorem dX9_add_25 : decode cX9_add 25 = .ok (.iload_n 1, 1) := by decide +kernel
theorem dX9_add_26 : decode cX9_add 26 = .ok (.iload_n 2, 1) := by decide +kernel
theorem dX9_add_27 : decode cX9_add 27 = .ok (.ishr, 1) := by decide +kernel
theorem dX9_add_28 : decode cX9_add 28 = .ok (.i2b, 1) := by decide +kernel
theorem dX9_add_29 : decode cX9_add 29 = .ok (.bastore, 1) := by decide +kernel
theorem dX9_add_30 : decode cX9_add 30 = .ok (.aload_n 0, 1) := by decide +kernel
theorem dX9_add_31 : decode cX9_add 31 = .ok (.dup, 1) := by decide +kernel
theorem dX9_add_32 : decode cX9_add 32 = .ok (.getfield 15, 3) := by decide +kernel
theorem dX9_add_35 : decode cX9_add 35 = .ok (.iconst 1, 1) := by decide +kernel
theorem dX9_add_36 : decode cX9_add 36 = .ok (.iadd, 1) := by decide +kernel
theorem dX9_add_37 : decode cX9_add 37 = .ok (.putfield 15, 3) := by decide +kernel
theorem dX9_add_40 : decode cX9_add 40 = .ok (.iinc 2 (-8), 3) := by decide +kernel
theorem dX9_add_43 : decode cX9_add 43 = .ok (.goto (-40), 3) := by decide +kernel
theorem dX9_add_46 : decode cX9_add 46 = .ok (.return_, 1) := by decide +kernel
theorem dX9_clear_0 : decode cX9_clear 0 = .ok (.aload_n 0, 1) := by decide +kernel
theorem dX9_clear_1 : decode cX9_clear 1 = .ok (.iconst 0, 1) := by decide +kernel
theorem dX9_clear_2 : decode cX9_clear 2 = .ok (.putfield 15, 3) := by decide +kernel
theorem dX9_clear_5 : decode cX9_clear 5 = .ok (.return_, 1) := by decide +kernel
theorem dX9_at_0 : decode cX9_at 0 = .ok (.iload_n 1, 1) := by decide +kernel
theorem dX9_at_1 : decode cX9_at 1 = .ok (.iconst 0, 1) := by decide +kernel
theorem dX9_at_2 : decode cX9_at 2 = .ok (.sipush 159, 3) := by decide +kernel
theorem dX9_at_5 : decode cX9_at 5 = .ok (.invokestatic 19, 3) := by decide +kernel
theorem dX9_at_8 : decode cX9_at 8 = .ok (.ifCond .eq 16, 3) := by decide +kernel
theorem dX9_at_11 : decode cX9_at 11 = .ok (.aload_n 0, 1) := by decide +kernel
theorem dX9_at_12 : decode cX9_at 12 = .ok (.getfield 11, 3) := by decide +kernel
theorem dX9_at_15 : decode cX9_at 15 = .ok (.iload_n 1, 1) := by decide +kernel
theorem dX9_at_16 : decode cX9_at 16 = .ok (.baload, 1) := by decide +kernel
theorem dX9_at_17 : decode cX9_at 17 = .ok (.sipush 255, 3) := by decide +kernel
theorem dX9_at_20 : decode cX9_at 20 = .ok (.iand, 1) := by decide +kernel
theorem dX9_at_21 : decode cX9_at 21 = .ok (.goto 4, 3) := by decide +kernel
theorem dX9_at_24 : decode cX9_at 24 = .ok (.iconst (-1), 1) := by decide +kernel
theorem dX9_at_25 : decode cX9_at 25 = .ok (.ireturn, 1) := by decide +kernel
theorem dX9_number_0 : decode cX9_number 0 = .ok (.iconst 0, 1) := by decide +kernel
theorem dX9_number_1 : decode cX9_number 1 = .ok (.istore_n 2, 1) := by decide +kernel
theorem dX9_number_2 : decode cX9_number 2 = .ok (.iconst 0, 1) := by decide +kernel
theorem dX9_number_3 : decode cX9_number 3 = .ok (.istore_n 3, 1) := by decide +kernel
theorem dX9_number_4 : decode cX9_number 4 = .ok (.iload_n 3, 1) := by decide +kernel
theorem dX9_number_5 : decode cX9_number 5 = .ok (.iconst 4, 1) := by decide +kernel
theorem dX9_number_6 : decode cX9_number 6 = .ok (.if_icmp .ge 28, 3) := by decide +kernel
theorem dX9_number_9 : decode cX9_number 9 = .ok (.iload_n 2, 1) := by decide +kernel
theorem dX9_number_10 : decode cX9_number 10 = .ok (.bipush 8, 2) := by decide +kernel
theorem dX9_number_12 : decode cX9_number 12 = .ok (.ishl, 1) := by decide +kernel
theorem dX9_number_13 : decode cX9_number 13 = .ok (.aload_n 0, 1) := by decide +kernel
theorem dX9_number_14 : decode cX9_number 14 = .ok (.iconst 4, 1) := by decide +kernel
theorem dX9_number_15 : decode cX9_number 15 = .ok (.iload_n 1, 1) := by decide +kernel
theorem dX9_number_16 : decode cX9_number 16 = .ok (.imul, 1) := by decide +kernel
theorem dX9_number_17 : decode cX9_number 17 = .ok (.iload_n 3, 1) := by decide +kernel
theorem dX9_number_18 : decode cX9_number 18 = .ok (.iadd, 1) := by decide +kernel
theorem dX9_number_19 : decode cX9_number 19 = .ok (.invokevirtual 23, 3) := by decide +kernel
theorem dX9_number_22 : decode cX9_number 22 = .ok (.sipush 255, 3) := by decide +kernel
theorem dX9_number_25 : decode cX9_number 25 = .ok (.iand, 1) := by decide +kernel
theorem dX9_number_26 : decode cX9_number 26 = .ok (.ior, 1) := by decide +kernel
theorem dX9_number_27 : decode cX9_number 27 = .ok (.istore_n 2, 1) := by decide +kernel
theorem dX9_number_28 : decode cX9_number 28 = .ok (.iinc 3 1, 3) := by decide +kernel
theorem dX9_number_31 : decode cX9_number 31 = .ok (.goto (-27), 3) := by decide +kernel
theorem dX9_number_34 : decode cX9_number 34 = .ok (.iload_n 2, 1) := by decide +kernel
theorem dX9_number_35 : decode cX9_number 35 = .ok (.ireturn, 1) := by decide +kernel
theorem dX9_takeMeasures_0 : decode cX9_takeMeasures 0 = .ok (.iconst 0, 1) := by decide +kernel
theorem dX9_takeMeasures_1 : decode cX9_takeMeasures 1 = .ok (.istore_n 2, 1) := by decide +kernel
theorem dX9_takeMeasures_2 : decode cX9_takeMeasures 2 = .ok (.iload_n 2, 1) := by decide +kernel
theorem dX9_takeMeasures_3 : decode cX9_takeMeasures 3 = .ok (.bipush 6, 2) := by decide +kernel
theorem dX9_takeMeasures_5 : decode cX9_takeMeasures 5 = .ok (.if_icmp .ge 23, 3) := by decide +kernel
theorem dX9_takeMeasures_8 : decode cX9_takeMeasures 8 = .ok (.iload_n 2, 1) := by decide +kernel
theorem dX9_takeMeasures_9 : decode cX9_takeMeasures 9 = .ok (.aload_n 1, 1) := by decide +kernel
theorem dX9_takeMeasures_10 : decode cX9_takeMeasures 10 = .ok (.arraylength, 1) := by decide +kernel
theorem dX9_takeMeasures_11 : decode cX9_takeMeasures 11 = .ok (.if_icmp .ge 17, 3) := by decide +kernel
theorem dX9_takeMeasures_14 : decode cX9_takeMeasures 14 = .ok (.aload_n 1, 1) := by decide +kernel
theorem dX9_takeMeasures_15 : decode cX9_takeMeasures 15 = .ok (.iload_n 2, 1) := by decide +kernel
theorem dX9_takeMeasures_16 : decode cX9_takeMeasures 16 = .ok (.aload_n 0, 1) := by decide +kernel
theorem dX9_takeMeasures_17 : decode cX9_takeMeasures 17 = .ok (.iload_n 2, 1) := by decide +kernel
theorem dX9_takeMeasures_18 : decode cX9_takeMeasures 18 = .ok (.invokevirtual 23, 3) := by decide +kernel
theorem dX9_takeMeasures_21 : decode cX9_takeMeasures 21 = .ok (.iastore, 1) := by decide +kernel
theorem dX9_takeMeasures_22 : decode cX9_takeMeasures 22 = .ok (.iinc 2 1, 3) := by decide +kernel
theorem dX9_takeMeasures_25 : decode cX9_takeMeasures 25 = .ok (.goto (-23), 3) := by decide +kernel
theorem dX9_takeMeasures_28 : decode cX9_takeMeasures 28 = .ok (.return_, 1) := by decide +kernel
theorem dX9_open_0 : decode cX9_open 0 = .ok (.aload_n 0, 1) := by decide +kernel
theorem dX9_open_1 : decode cX9_open 1 = .ok (.iconst 0, 1) := by decide +kernel
theorem dX9_open_2 : decode cX9_open 2 = .ok (.putfield 27, 3) := by decide +kernel
theorem dX9_open_5 : decode cX9_open 5 = .ok (.aload_n 0, 1) := by decide +kernel
theorem dX9_open_6 : decode cX9_open 6 = .ok (.iload_n 1, 1) := by decide +kernel
theorem dX9_open_7 : decode cX9_open 7 = .ok (.putfield 30, 3) := by decide +kernel
theorem dX9_open_10 : decode cX9_open 10 = .ok (.aload_n 0, 1) := by decide +kernel
theorem dX9_open_11 : decode cX9_open 11 = .ok (.iconst 0, 1) := by decide +kernel
theorem dX9_open_12 : decode cX9_open 12 = .ok (.putfield 33, 3) := by decide +kernel
theorem dX9_open_15 : decode cX9_open 15 = .ok (.return_, 1) := by decide +kernel
theorem dX9_sign_0 : decode cX9_sign 0 = .ok (.aload_n 0, 1) := by decide +kernel
theorem dX9_sign_1 : decode cX9_sign 1 = .ok (.getfield 27, 3) := by decide +kernel
theorem dX9_sign_4 : decode cX9_sign 4 = .ok (.aload_n 0, 1) := by decide +kernel
theorem dX9_sign_5 : decode cX9_sign 5 = .ok (.getfield 30, 3) := by decide +kernel
theorem dX9_sign_8 : decode cX9_sign 8 = .ok (.if_icmp .ge 29, 3) := by decide +kernel
theorem dX9_sign_11 : decode cX9_sign 11 = .ok (.aload_n 0, 1) := by decide +kernel
theorem dX9_sign_12 : decode cX9_sign 12 = .ok (.getfield 27, 3) := by decide +kernel
theorem dX9_sign_15 : decode cX9_sign 15 = .ok (.sipush 160, 3) := by decide +kernel
theorem dX9_sign_18 : decode cX9_sign 18 = .ok (.if_icmp .ge 19, 3) := by decide +kernel
theorem dX9_sign_21 : decode cX9_sign 21 = .ok (.aload_n 0, 1) := by decide +kernel
theorem dX9_sign_22 : decode cX9_sign 22 = .ok (.getfield 11, 3) := by decide +kernel
theorem dX9_sign_25 : decode cX9_sign 25 = .ok (.aload_n 0, 1) := by decide +kernel
theorem dX9_sign_26 : decode cX9_sign 26 = .ok (.getfield 27, 3) := by decide +kernel
theorem dX9_sign_29 : decode cX9_sign 29 = .ok (.baload, 1) := by decide +kernel
theorem dX9_sign_30 : decode cX9_sign 30 = .ok (.sipush 255, 3) := by decide +kernel
theorem dX9_sign_33 : decode cX9_sign 33 = .ok (.iand, 1) := by decide +kernel
theorem dX9_sign_34 : decode cX9_sign 34 = .ok (.goto 4, 3) := by decide +kernel
theorem dX9_sign_37 : decode cX9_sign 37 = .ok (.iconst (-1), 1) := by decide +kernel
theorem dX9_sign_38 : decode cX9_sign 38 = .ok (.ireturn, 1) := by decide +kernel
theorem dX9_skip_0 : decode cX9_skip 0 = .ok (.aload_n 0, 1) := by decide +kernel
theorem dX9_skip_1 : decode cX9_skip 1 = .ok (.dup, 1) := by decide +kernel
theorem dX9_skip_2 : decode cX9_skip 2 = .ok (.getfield 27, 3) := by decide +kernel
theorem dX9_skip_5 : decode cX9_skip 5 = .ok (.iconst 1, 1) := by decide +kernel
theorem dX9_skip_6 : decode cX9_skip 6 = .ok (.iadd, 1) := by decide +kernel
theorem dX9_skip_7 : decode cX9_skip 7 = .ok (.putfield 27, 3) := by decide +kernel
theorem dX9_skip_10 : decode cX9_skip 10 = .ok (.return_, 1) := by decide +kernel
theorem dX9_pass_0 : decode cX9_pass 0 = .ok (.aload_n 0, 1) := by decide +kernel
theorem dX9_pass_1 : decode cX9_pass 1 = .ok (.invokevirtual 36, 3) := by decide +kernel
theorem dX9_pass_4 : decode cX9_pass 4 = .ok (.iload_n 1, 1) := by decide +kernel
theorem dX9_pass_5 : decode cX9_pass 5 = .ok (.if_icmp .eq 9, 3) := by decide +kernel
theorem dX9_pass_8 : decode cX9_pass 8 = .ok (.aload_n 0, 1) := by decide +kernel
theorem dX9_pass_9 : decode cX9_pass 9 = .ok (.iconst 1, 1) := by decide +kernel
theorem dX9_pass_10 : decode cX9_pass 10 = .ok (.invokevirtual 40, 3) := by decide +kernel
theorem dX9_pass_13 : decode cX9_pass 13 = .ok (.ireturn, 1) := by decide +kernel
theorem dX9_pass_14 : decode cX9_pass 14 = .ok (.aload_n 0, 1) := by decide +kernel
theorem dX9_pass_15 : decode cX9_pass 15 = .ok (.dup, 1) := by decide +kernel
theorem dX9_pass_16 : decode cX9_pass 16 = .ok (.getfield 27, 3) := by decide +kernel
theorem dX9_pass_19 : decode cX9_pass 19 = .ok (.iconst 1, 1) := by decide +kernel
theorem dX9_pass_20 : decode cX9_pass 20 = .ok (.iadd, 1) := by decide +kernel
theorem dX9_pass_21 : decode cX9_pass 21 = .ok (.putfield 27, 3) := by decide +kernel
theorem dX9_pass_24 : decode cX9_pass 24 = .ok (.iconst 1, 1) := by decide +kernel
theorem dX9_pass_25 : decode cX9_pass 25 = .ok (.ireturn, 1) := by decide +kernel
theorem dX9_isRead_0 : decode cX9_isRead 0 = .ok (.aload_n 0, 1) := by decide +kernel
theorem dX9_isRead_1 : decode cX9_isRead 1 = .ok (.getfield 27, 3) := by decide +kernel
theorem dX9_isRead_4 : decode cX9_isRead 4 = .ok (.aload_n 0, 1) := by decide +kernel
theorem dX9_isRead_5 : decode cX9_isRead 5 = .ok (.getfield 30, 3) := by decide +kernel
theorem dX9_isRead_8 : decode cX9_isRead 8 = .ok (.if_icmp .ge 11, 3) := by decide +kernel
theorem dX9_isRead_11 : decode cX9_isRead 11 = .ok (.aload_n 0, 1) := by decide +kernel
theorem dX9_isRead_12 : decode cX9_isRead 12 = .ok (.iconst 1, 1) := by decide +kernel
theorem dX9_isRead_13 : decode cX9_isRead 13 = .ok (.invokevirtual 40, 3) := by decide +kernel
theorem dX9_isRead_16 : decode cX9_isRead 16 = .ok (.ifCond .eq 7, 3) := by decide +kernel
theorem dX9_isRead_19 : decode cX9_isRead 19 = .ok (.iconst 1, 1) := by decide +kernel
theorem dX9_isRead_20 : decode cX9_isRead 20 = .ok (.goto 4, 3) := by decide +kernel
theorem dX9_isRead_23 : decode cX9_isRead 23 = .ok (.iconst 0, 1) := by decide +kernel
theorem dX9_isRead_24 : decode cX9_isRead 24 = .ok (.ireturn, 1) := by decide +kernel
theorem dX9_canOpen_0 : decode cX9_canOpen 0 = .ok (.iload_n 1, 1) := by decide +kernel
theorem dX9_canOpen_1 : decode cX9_canOpen 1 = .ok (.bipush 6, 2) := by decide +kernel
theorem dX9_canOpen_3 : decode cX9_canOpen 3 = .ok (.if_icmp .lt 11, 3) := by decide +kernel
theorem dX9_canOpen_6 : decode cX9_canOpen 6 = .ok (.aload_n 0, 1) := by decide +kernel
theorem dX9_canOpen_7 : decode cX9_canOpen 7 = .ok (.iconst 5, 1) := by decide +kernel
theorem dX9_canOpen_8 : decode cX9_canOpen 8 = .ok (.invokevirtual 40, 3) := by decide +kernel
theorem dX9_canOpen_11 : decode cX9_canOpen 11 = .ok (.ifCond .eq 7, 3) := by decide +kernel
theorem dX9_canOpen_14 : decode cX9_canOpen 14 = .ok (.iconst 1, 1) := by decide +kernel
theorem dX9_canOpen_15 : decode cX9_canOpen 15 = .ok (.goto 4, 3) := by decide +kernel
theorem dX9_canOpen_18 : decode cX9_canOpen 18 = .ok (.iconst 0, 1) := by decide +kernel
theorem dX9_canOpen_19 : decode cX9_canOpen 19 = .ok (.ireturn, 1) := by decide +kernel
theorem dX9_refuse_0 : decode cX9_refuse 0 = .ok (.aload_n 0, 1) := by decide +kernel
theorem dX9_refuse_1 : decode cX9_refuse 1 = .ok (.sipush (-1000), 3) := by decide +kernel
theorem dX9_refuse_4 : decode cX9_refuse 4 = .ok (.iload_n 1, 1) := by decide +kernel
theorem dX9_refuse_5 : decode cX9_refuse 5 = .ok (.imul, 1) := by decide +kernel
theorem dX9_refuse_6 : decode cX9_refuse 6 = .ok (.aload_n 0, 1) := by decide +kernel
theorem dX9_refuse_7 : decode cX9_refuse 7 = .ok (.getfield 27, 3) := by decide +kernel
theorem dX9_refuse_10 : decode cX9_refuse 10 = .ok (.isub, 1) := by decide +kernel
theorem dX9_refuse_11 : decode cX9_refuse 11 = .ok (.putfield 33, 3) := by decide +kernel
theorem dX9_refuse_14 : decode cX9_refuse 14 = .ok (.iconst 0, 1) := by decide +kernel
theorem dX9_refuse_15 : decode cX9_refuse 15 = .ok (.ireturn, 1) := by decide +kernel
theorem dX10_init_0 : decode cX10_init 0 = .ok (.aload_n 0, 1) := by decide +kernel
theorem dX10_init_1 : decode cX10_init 1 = .ok (.invokespecial 3, 3) := by decide +kernel
theorem dX10_init_4 : decode cX10_init 4 = .ok (.aload_n 0, 1) := by decide +kernel
theorem dX10_init_5 : decode cX10_init 5 = .ok (.bipush 6, 2) := by decide +kernel
theorem dX10_init_7 : decode cX10_init 7 = .ok (.newarray .int, 2) := by decide +kernel
theorem dX10_init_9 : decode cX10_init 9 = .ok (.putfield 9, 3) := by decide +kernel
theorem dX10_init_12 : decode cX10_init 12 = .ok (.aload_n 0, 1) := by decide +kernel
theorem dX10_init_13 : decode cX10_init 13 = .ok (.bipush 6, 2) := by decide +kernel
theorem dX10_init_15 : decode cX10_init 15 = .ok (.newarray .int, 2) := by decide +kernel
theorem dX10_init_17 : decode cX10_init 17 = .ok (.putfield 15, 3) := by decide +kernel
theorem dX10_init_20 : decode cX10_init 20 = .ok (.aload_n 0, 1) := by decide +kernel
theorem dX10_init_21 : decode cX10_init 21 = .ok (.bipush 6, 2) := by decide +kernel
theorem dX10_init_23 : decode cX10_init 23 = .ok (.newarray .int, 2) := by decide +kernel
theorem dX10_init_25 : decode cX10_init 25 = .ok (.putfield 18, 3) := by decide +kernel
theorem dX10_init_28 : decode cX10_init 28 = .ok (.aload_n 0, 1) := by decide +kernel
theorem dX10_init_29 : decode cX10_init 29 = .ok (.getfield 15, 3) := by decide +kernel
theorem dX10_init_32 : decode cX10_init 32 = .ok (.bipush 99, 2) := by decide +kernel
theorem dX10_init_34 : decode cX10_init 34 = .ok (.invokestatic 21, 3) := by decide +kernel
theorem dX10_init_37 : decode cX10_init 37 = .ok (.return_, 1) := by decide +kernel
theorem dX10_put_0 : decode cX10_put 0 = .ok (.aload_n 0, 1) := by decide +kernel
theorem dX10_put_1 : decode cX10_put 1 = .ok (.getfield 9, 3) := by decide +kernel
theorem dX10_put_4 : decode cX10_put 4 = .ok (.iload_n 1, 1) := by decide +kernel
theorem dX10_put_5 : decode cX10_put 5 = .ok (.iload_n 2, 1) := by decide +kernel
theorem dX10_put_6 : decode cX10_put 6 = .ok (.iastore, 1) := by decide +kernel
theorem dX10_put_7 : decode cX10_put 7 = .ok (.aload_n 0, 1) := by decide +kernel
theorem dX10_put_8 : decode cX10_put 8 = .ok (.getfield 15, 3) := by decide +kernel
theorem dX10_put_11 : decode cX10_put 11 = .ok (.iload_n 1, 1) := by decide +kernel
theorem dX10_put_12 : decode cX10_put 12 = .ok (.iload_n 3, 1) := by decide +kernel
theorem dX10_put_13 : decode cX10_put 13 = .ok (.iastore, 1) := by decide +kernel
theorem dX10_put_14 : decode cX10_put 14 = .ok (.aload_n 0, 1) := by decide +kernel
theorem dX10_put_15 : decode cX10_put 15 = .ok (.getfield 18, 3) := by decide +kernel
theorem dX10_put_18 : decode cX10_put 18 = .ok (.iload_n 1, 1) := by decide +kernel
theorem dX10_put_19 : decode cX10_put 19 = .ok (.iload 4, 2) := by decide +kernel
theorem dX10_put_21 : decode cX10_put 21 = .ok (.iastore, 1) := by decide +kernel
theorem dX10_put_22 : decode cX10_put 22 = .ok (.aload_n 0, 1) := by decide +kernel
theorem dX10_put_23 : decode cX10_put 23 = .ok (.iconst 0, 1) := by decide +kernel
theorem dX10_put_24 : decode cX10_put 24 = .ok (.putfield 27, 3) := by decide +kernel
theorem dX10_put_27 : decode cX10_put 27 = .ok (.iconst 0, 1) := by decide +kernel
theorem dX10_put_28 : decode cX10_put 28 = .ok (.istore 5, 2) := by decide +kernel
theorem dX10_put_30 : decode cX10_put 30 = .ok (.iload 5, 2) := by decide +kernel
theorem dX10_put_32 : decode cX10_put 32 = .ok (.bipush 6, 2) := by decide +kernel
theorem dX10_put_34 : decode cX10_put 34 = .ok (.if_icmp .ge 45, 3) := by decide +kernel
theorem dX10_put_37 : decode cX10_put 37 = .ok (.aload_n 0, 1) := by decide +kernel
theorem dX10_put_38 : decode cX10_put 38 = .ok (.dup, 1) := by decide +kernel
theorem dX10_put_39 : decode cX10_put 39 = .ok (.getfield 27, 3) := by decide +kernel
theorem dX10_put_42 : decode cX10_put 42 = .ok (.aload_n 0, 1) := by decide +kernel
theorem dX10_put_43 : decode cX10_put 43 = .ok (.getfield 9, 3) := by decide +kernel
theorem dX10_put_46 : decode cX10_put 46 = .ok (.iload 5, 2) := by decide +kernel
theorem dX10_put_48 : decode cX10_put 48 = .ok (.iaload, 1) := by decide +kernel
theorem dX10_put_49 : decode cX10_put 49 = .ok (.iconst 1, 1) := by decide +kernel
theorem dX10_put_50 : decode cX10_put 50 = .ok (.if_icmp .eq 14, 3) := by decide +kernel
theorem dX10_put_53 : decode cX10_put 53 = .ok (.aload_n 0, 1) := by decide +kernel
theorem dX10_put_54 : decode cX10_put 54 = .ok (.getfield 9, 3) := by decide +kernel
theorem dX10_put_57 : decode cX10_put 57 = .ok (.iload 5, 2) := by decide +kernel
theorem dX10_put_59 : decode cX10_put 59 = .ok (.iaload, 1) := by decide +kernel
theorem dX10_put_60 : decode cX10_put 60 = .ok (.iconst 3, 1) := by decide +kernel
theorem dX10_put_61 : decode cX10_put 61 = .ok (.if_icmp .ne 7, 3) := by decide +kernel
theorem dX10_put_64 : decode cX10_put 64 = .ok (.iconst 1, 1) := by decide +kernel
theorem dX10_put_65 : decode cX10_put 65 = .ok (.goto 4, 3) := by decide +kernel
theorem dX10_put_68 : decode cX10_put 68 = .ok (.iconst 0, 1) := by decide +kernel
theorem dX10_put_69 : decode cX10_put 69 = .ok (.ior, 1) := by decide +kernel
theorem dX10_put_70 : decode cX10_put 70 = .ok (.putfield 27, 3) := by decide +kernel
theorem dX10_put_73 : decode cX10_put 73 = .ok (.iinc 5 1, 3) := by decide +kernel
theorem dX10_put_76 : decode cX10_put 76 = .ok (.goto (-46), 3) := by decide +kernel
theorem dX10_put_79 : decode cX10_put 79 = .ok (.return_, 1) := by decide +kernel
theorem dX10_together_0 : decode cX10_together 0 = .ok (.iconst 0, 1) := by decide +kernel
theorem dX10_together_1 : decode cX10_together 1 = .ok (.istore_n 1, 1) := by decide +kernel
theorem dX10_together_2 : decode cX10_together 2 = .ok (.iconst 0, 1) := by decide +kernel
theorem dX10_together_3 : decode cX10_together 3 = .ok (.istore_n 2, 1) := by decide +kernel
theorem dX10_together_4 : decode cX10_together 4 = .ok (.iload_n 2, 1) := by decide +kernel
theorem dX10_together_5 : decode cX10_together 5 = .ok (.bipush 6, 2) := by decide +kernel
theorem dX10_together_7 : decode cX10_together 7 = .ok (.if_icmp .ge 18, 3) := by decide +kernel
theorem dX10_together_10 : decode cX10_together 10 = .ok (.iload_n 1, 1) := by decide +kernel
theorem dX10_together_11 : decode cX10_together 11 = .ok (.aload_n 0, 1) := by decide +kernel
theorem dX10_together_12 : decode cX10_together 12 = .ok (.getfield 18, 3) := by decide +kernel
theorem dX10_together_15 : decode cX10_together 15 = .ok (.iload_n 2, 1) := by decide +kernel
theorem dX10_together_16 : decode cX10_together 16 = .ok (.iaload, 1) := by decide +kernel
theorem dX10_together_17 : decode cX10_together 17 = .ok (.iadd, 1) := by decide +kernel
theorem dX10_together_18 : decode cX10_together 18 = .ok (.istore_n 1, 1) := by decide +kernel
theorem dX10_together_19 : decode cX10_together 19 = .ok (.iinc 2 1, 3) := by decide +kernel
theorem dX10_together_22 : decode cX10_together 22 = .ok (.goto (-18), 3) := by decide +kernel
theorem dX10_together_25 : decode cX10_together 25 = .ok (.iload_n 1, 1) := by decide +kernel
theorem dX10_together_26 : decode cX10_together 26 = .ok (.ireturn, 1) := by decide +kernel
theorem dX10_hold_0 : decode cX10_hold 0 = .ok (.iconst 0, 1) := by decide +kernel
theorem dX10_hold_1 : decode cX10_hold 1 = .ok (.istore_n 2, 1) := by decide +kernel
theorem dX10_hold_2 : decode cX10_hold 2 = .ok (.iload_n 2, 1) := by decide +kernel
theorem dX10_hold_3 : decode cX10_hold 3 = .ok (.bipush 6, 2) := by decide +kernel
theorem dX10_hold_5 : decode cX10_hold 5 = .ok (.if_icmp .ge 23, 3) := by decide +kernel
theorem dX10_hold_8 : decode cX10_hold 8 = .ok (.aload_n 1, 1) := by decide +kernel
theorem dX10_hold_9 : decode cX10_hold 9 = .ok (.iload_n 2, 1) := by decide +kernel
theorem dX10_hold_10 : decode cX10_hold 10 = .ok (.iaload, 1) := by decide +kernel
theorem dX10_hold_11 : decode cX10_hold 11 = .ok (.aload_n 0, 1) := by decide +kernel
theorem dX10_hold_12 : decode cX10_hold 12 = .ok (.getfield 15, 3) := by decide +kernel
theorem dX10_hold_15 : decode cX10_hold 15 = .ok (.iload_n 2, 1) := by decide +kernel
theorem dX10_hold_16 : decode cX10_hold 16 = .ok (.iaload, 1) := by decide +kernel
theorem dX10_hold_17 : decode cX10_hold 17 = .ok (.if_icmp .le 5, 3) := by decide +kernel
theorem dX10_hold_20 : decode cX10_hold 20 = .ok (.iconst 0, 1) := by decide +kernel
theorem dX10_hold_21 : decode cX10_hold 21 = .ok (.ireturn, 1) := by decide +kernel
theorem dX10_hold_22 : decode cX10_hold 22 = .ok (.iinc 2 1, 3) := by decide +kernel
theorem dX10_hold_25 : decode cX10_hold 25 = .ok (.goto (-23), 3) := by decide +kernel
theorem dX10_hold_28 : decode cX10_hold 28 = .ok (.iconst 1, 1) := by decide +kernel
theorem dX10_hold_29 : decode cX10_hold 29 = .ok (.ireturn, 1) := by decide +kernel
theorem dX11_init_0 : decode cX11_init 0 = .ok (.aload_n 0, 1) := by decide +kernel
theorem dX11_init_1 : decode cX11_init 1 = .ok (.invokespecial 1, 3) := by decide +kernel
theorem dX11_init_4 : decode cX11_init 4 = .ok (.aload_n 0, 1) := by decide +kernel
theorem dX11_init_5 : decode cX11_init 5 = .ok (.new 7, 3) := by decide +kernel
theorem dX11_init_8 : decode cX11_init 8 = .ok (.dup, 1) := by decide +kernel
theorem dX11_init_9 : decode cX11_init 9 = .ok (.invokespecial 9, 3) := by decide +kernel
theorem dX11_init_12 : decode cX11_init 12 = .ok (.putfield 10, 3) := by decide +kernel
theorem dX11_init_15 : decode cX11_init 15 = .ok (.aload_n 0, 1) := by decide +kernel
theorem dX11_init_16 : decode cX11_init 16 = .ok (.new 16, 3) := by decide +kernel
theorem dX11_init_19 : decode cX11_init 19 = .ok (.dup, 1) := by decide +kernel
theorem dX11_init_20 : decode cX11_init 20 = .ok (.invokespecial 18, 3) := by decide +kernel
theorem dX11_init_23 : decode cX11_init 23 = .ok (.putfield 19, 3) := by decide +kernel
theorem dX11_init_26 : decode cX11_init 26 = .ok (.aload_n 0, 1) := by decide +kernel
theorem dX11_init_27 : decode cX11_init 27 = .ok (.iconst 3, 1) := by decide +kernel
theorem dX11_init_28 : decode cX11_init 28 = .ok (.anewarray 23, 3) := by decide +kernel
theorem dX11_init_31 : decode cX11_init 31 = .ok (.putfield 25, 3) := by decide +kernel
theorem dX11_init_34 : decode cX11_init 34 = .ok (.iconst 0, 1) := by decide +kernel
theorem dX11_init_35 : decode cX11_init 35 = .ok (.istore_n 1, 1) := by decide +kernel
theorem dX11_init_36 : decode cX11_init 36 = .ok (.iload_n 1, 1) := by decide +kernel
theorem dX11_init_37 : decode cX11_init 37 = .ok (.iconst 3, 1) := by decide +kernel
theorem dX11_init_38 : decode cX11_init 38 = .ok (.if_icmp .ge 22, 3) := by decide +kernel
theorem dX11_init_41 : decode cX11_init 41 = .ok (.aload_n 0, 1) := by decide +kernel
theorem dX11_init_42 : decode cX11_init 42 = .ok (.getfield 25, 3) := by decide +kernel
theorem dX11_init_45 : decode cX11_init 45 = .ok (.iload_n 1, 1) := by decide +kernel
theorem dX11_init_46 : decode cX11_init 46 = .ok (.new 23, 3) := by decide +kernel
theorem dX11_init_49 : decode cX11_init 49 = .ok (.dup, 1) := by decide +kernel
theorem dX11_init_50 : decode cX11_init 50 = .ok (.invokespecial 29, 3) := by decide +kernel
theorem dX11_init_53 : decode cX11_init 53 = .ok (.aastore, 1) := by decide +kernel
theorem dX11_init_54 : decode cX11_init 54 = .ok (.iinc 1 1, 3) := by decide +kernel
theorem dX11_init_57 : decode cX11_init 57 = .ok (.goto (-21), 3) := by decide +kernel
theorem dX11_init_60 : decode cX11_init 60 = .ok (.aload_n 0, 1) := by decide +kernel
theorem dX11_init_61 : decode cX11_init 61 = .ok (.new 23, 3) := by decide +kernel
theorem dX11_init_64 : decode cX11_init 64 = .ok (.dup, 1) := by decide +kernel
theorem dX11_init_65 : decode cX11_init 65 = .ok (.invokespecial 29, 3) := by decide +kernel
theorem dX11_init_68 : decode cX11_init 68 = .ok (.putfield 30, 3) := by decide +kernel
theorem dX11_init_71 : decode cX11_init 71 = .ok (.aload_n 0, 1) := by decide +kernel
theorem dX11_init_72 : decode cX11_init 72 = .ok (.new 34, 3) := by decide +kernel
theorem dX11_init_75 : decode cX11_init 75 = .ok (.dup, 1) := by decide +kernel
theorem dX11_init_76 : decode cX11_init 76 = .ok (.invokespecial 36, 3) := by decide +kernel
theorem dX11_init_79 : decode cX11_init 79 = .ok (.putfield 37, 3) := by decide +kernel
theorem dX11_init_82 : decode cX11_init 82 = .ok (.aload_n 0, 1) := by decide +kernel
theorem dX11_init_83 : decode cX11_init 83 = .ok (.new 34, 3) := by decide +kernel
theorem dX11_init_86 : decode cX11_init 86 = .ok (.dup, 1) := by decide +kernel
theorem dX11_init_87 : decode cX11_init 87 = .ok (.invokespecial 36, 3) := by decide +kernel
theorem dX11_init_90 : decode cX11_init 90 = .ok (.putfield 41, 3) := by decide +kernel
theorem dX11_init_93 : decode cX11_init 93 = .ok (.aload_n 0, 1) := by decide +kernel
theorem dX11_init_94 : decode cX11_init 94 = .ok (.new 44, 3) := by decide +kernel
theorem dX11_init_97 : decode cX11_init 97 = .ok (.dup, 1) := by decide +kernel
theorem dX11_init_98 : decode cX11_init 98 = .ok (.aload_n 0, 1) := by decide +kernel
theorem dX11_init_99 : decode cX11_init 99 = .ok (.getfield 10, 3) := by decide +kernel
theorem dX11_init_102 : decode cX11_init 102 = .ok (.aload_n 0, 1) := by decide +kernel
theorem dX11_init_103 : decode cX11_init 103 = .ok (.getfield 41, 3) := by decide +kernel
theorem dX11_init_106 : decode cX11_init 106 = .ok (.invokespecial 46, 3) := by decide +kernel
theorem dX11_init_109 : decode cX11_init 109 = .ok (.putfield 49, 3) := by decide +kernel
theorem dX11_init_112 : decode cX11_init 112 = .ok (.aload_n 0, 1) := by decide +kernel
theorem dX11_init_113 : decode cX11_init 113 = .ok (.new 53, 3) := by decide +kernel
theorem dX11_init_116 : decode cX11_init 116 = .ok (.dup, 1) := by decide +kernel
theorem dX11_init_117 : decode cX11_init 117 = .ok (.aload_n 0, 1) := by decide +kernel
theorem dX11_init_118 : decode cX11_init 118 = .ok (.getfield 19, 3) := by decide +kernel
theorem dX11_init_121 : decode cX11_init 121 = .ok (.invokespecial 55, 3) := by decide +kernel
theorem dX11_init_124 : decode cX11_init 124 = .ok (.putfield 58, 3) := by decide +kernel
theorem dX11_init_127 : decode cX11_init 127 = .ok (.aload_n 0, 1) := by decide +kernel
theorem dX11_init_128 : decode cX11_init 128 = .ok (.new 53, 3) := by decide +kernel
theorem dX11_init_131 : decode cX11_init 131 = .ok (.dup, 1) := by decide +kernel
theorem dX11_init_132 : decode cX11_init 132 = .ok (.aload_n 0, 1) := by decide +kernel
theorem dX11_init_133 : decode cX11_init 133 = .ok (.getfield 19, 3) := by decide +kernel
theorem dX11_init_136 : decode cX11_init 136 = .ok (.invokespecial 55, 3) := by decide +kernel
theorem dX11_init_139 : decode cX11_init 139 = .ok (.putfield 62, 3) := by decide +kernel
theorem dX11_init_142 : decode cX11_init 142 = .ok (.aload_n 0, 1) := by decide +kernel
theorem dX11_init_143 : decode cX11_init 143 = .ok (.new 65, 3) := by decide +kernel
theorem dX11_init_146 : decode cX11_init 146 = .ok (.dup, 1) := by decide +kernel
theorem dX11_init_147 : decode cX11_init 147 = .ok (.aload_n 0, 1) := by decide +kernel
theorem dX11_init_148 : decode cX11_init 148 = .ok (.getfield 19, 3) := by decide +kernel
theorem dX11_init_151 : decode cX11_init 151 = .ok (.aload_n 0, 1) := by decide +kernel
theorem dX11_init_152 : decode cX11_init 152 = .ok (.getfield 58, 3) := by decide +kernel
theorem dX11_init_155 : decode cX11_init 155 = .ok (.aload_n 0, 1) := by decide +kernel
theorem dX11_init_156 : decode cX11_init 156 = .ok (.getfield 62, 3) := by decide +kernel
theorem dX11_init_159 : decode cX11_init 159 = .ok (.invokespecial 67, 3) := by decide +kernel
theorem dX11_init_162 : decode cX11_init 162 = .ok (.putfield 70, 3) := by decide +kernel
theorem dX11_init_165 : decode cX11_init 165 = .ok (.aload_n 0, 1) := by decide +kernel
theorem dX11_init_166 : decode cX11_init 166 = .ok (.new 74, 3) := by decide +kernel
theorem dX11_init_169 : decode cX11_init 169 = .ok (.dup, 1) := by decide +kernel
theorem dX11_init_170 : decode cX11_init 170 = .ok (.aload_n 0, 1) := by decide +kernel
theorem dX11_init_171 : decode cX11_init 171 = .ok (.getfield 19, 3) := by decide +kernel
theorem dX11_init_174 : decode cX11_init 174 = .ok (.aload_n 0, 1) := by decide +kernel
theorem dX11_init_175 : decode cX11_init 175 = .ok (.getfield 58, 3) := by decide +kernel
theorem dX11_init_178 : decode cX11_init 178 = .ok (.aload_n 0, 1) := by decide +kernel
theorem dX11_init_179 : decode cX11_init 179 = .ok (.getfield 62, 3) := by decide +kernel
theorem dX11_init_182 : decode cX11_init 182 = .ok (.invokespecial 76, 3) := by decide +kernel
theorem dX11_init_185 : decode cX11_init 185 = .ok (.putfield 77, 3) := by decide +kernel
theorem dX11_init_188 : decode cX11_init 188 = .ok (.aload_n 0, 1) := by decide +kernel
theorem dX11_init_189 : decode cX11_init 189 = .ok (.new 81, 3) := by decide +kernel
theorem dX11_init_192 : decode cX11_init 192 = .ok (.dup, 1) := by decide +kernel
theorem dX11_init_193 : decode cX11_init 193 = .ok (.aload_n 0, 1) := by decide +kernel
theorem dX11_init_194 : decode cX11_init 194 = .ok (.getfield 19, 3) := by decide +kernel
theorem dX11_init_197 : decode cX11_init 197 = .ok (.aload_n 0, 1) := by decide +kernel
theorem dX11_init_198 : decode cX11_init 198 = .ok (.getfield 58, 3) := by decide +kernel
theorem dX11_init_201 : decode cX11_init 201 = .ok (.invokespecial 83, 3) := by decide +kernel
theorem dX11_init_204 : decode cX11_init 204 = .ok (.putfield 86, 3) := by decide +kernel
theorem dX11_init_207 : decode cX11_init 207 = .ok (.aload_n 0, 1) := by decide +kernel
theorem dX11_init_208 : decode cX11_init 208 = .ok (.new 90, 3) := by decide +kernel
theorem dX11_init_211 : decode cX11_init 211 = .ok (.dup, 1) := by decide +kernel
theorem dX11_init_212 : decode cX11_init 212 = .ok (.aload_n 0, 1) := by decide +kernel
theorem dX11_init_213 : decode cX11_init 213 = .ok (.getfield 19, 3) := by decide +kernel
theorem dX11_init_216 : decode cX11_init 216 = .ok (.aload_n 0, 1) := by decide +kernel
theorem dX11_init_217 : decode cX11_init 217 = .ok (.getfield 58, 3) := by decide +kernel
theorem dX11_init_220 : decode cX11_init 220 = .ok (.invokespecial 92, 3) := by decide +kernel
theorem dX11_init_223 : decode cX11_init 223 = .ok (.putfield 93, 3) := by decide +kernel
theorem dX11_init_226 : decode cX11_init 226 = .ok (.aload_n 0, 1) := by decide +kernel
theorem dX11_init_227 : decode cX11_init 227 = .ok (.new 97, 3) := by decide +kernel
theorem dX11_init_230 : decode cX11_init 230 = .ok (.dup, 1) := by decide +kernel
theorem dX11_init_231 : decode cX11_init 231 = .ok (.invokespecial 99, 3) := by decide +kernel
theorem dX11_init_234 : decode cX11_init 234 = .ok (.putfield 100, 3) := by decide +kernel
theorem dX11_init_237 : decode cX11_init 237 = .ok (.aload_n 0, 1) := by decide +kernel
theorem dX11_init_238 : decode cX11_init 238 = .ok (.getfield 100, 3) := by decide +kernel
theorem dX11_init_241 : decode cX11_init 241 = .ok (.iconst 1, 1) := by decide +kernel
theorem dX11_init_242 : decode cX11_init 242 = .ok (.putfield 104, 3) := by decide +kernel
theorem dX11_init_245 : decode cX11_init 245 = .ok (.aload_n 0, 1) := by decide +kernel
theorem dX11_init_246 : decode cX11_init 246 = .ok (.new 97, 3) := by decide +kernel
theorem dX11_init_249 : decode cX11_init 249 = .ok (.dup, 1) := by decide +kernel
theorem dX11_init_250 : decode cX11_init 250 = .ok (.invokespecial 99, 3) := by decide +kernel
theorem dX11_init_253 : decode cX11_init 253 = .ok (.putfield 108, 3) := by decide +kernel
theorem dX11_init_256 : decode cX11_init 256 = .ok (.aload_n 0, 1) := by decide +kernel
theorem dX11_init_257 : decode cX11_init 257 = .ok (.iconst 0, 1) := by decide +kernel
theorem dX11_init_258 : decode cX11_init 258 = .ok (.putfield 111, 3) := by decide +kernel
theorem dX11_init_261 : decode cX11_init 261 = .ok (.return_, 1) := by decide +kernel
theorem dX11_vat_0 : decode cX11_vat 0 = .ok (.iload_n 1, 1) := by decide +kernel
theorem dX11_vat_1 : decode cX11_vat 1 = .ok (.iconst 0, 1) := by decide +kernel
theorem dX11_vat_2 : decode cX11_vat 2 = .ok (.iconst 5, 1) := by decide +kernel
theorem dX11_vat_3 : decode cX11_vat 3 = .ok (.invokestatic 115, 3) := by decide +kernel
theorem dX11_vat_6 : decode cX11_vat 6 = .ok (.ifCond .eq 12, 3) := by decide +kernel
theorem dX11_vat_9 : decode cX11_vat 9 = .ok (.iload_n 2, 1) := by decide +kernel
theorem dX11_vat_10 : decode cX11_vat 10 = .ok (.iconst 0, 1) := by decide +kernel
theorem dX11_vat_11 : decode cX11_vat 11 = .ok (.iconst 3, 1) := by decide +kernel
theorem dX11_vat_12 : decode cX11_vat 12 = .ok (.invokestatic 115, 3) := by decide +kernel
theorem dX11_vat_15 : decode cX11_vat 15 = .ok (.ifCond .ne 5, 3) := by decide +kernel
theorem dX11_vat_18 : decode cX11_vat 18 = .ok (.iconst 0, 1) := by decide +kernel
theorem dX11_vat_19 : decode cX11_vat 19 = .ok (.ireturn, 1) := by decide +kernel
theorem dX11_vat_20 : decode cX11_vat 20 = .ok (.iload_n 3, 1) := by decide +kernel
theorem dX11_vat_21 : decode cX11_vat 21 = .ok (.iconst 0, 1) := by decide +kernel
theorem dX11_vat_22 : decode cX11_vat 22 = .ok (.bipush 99, 2) := by decide +kernel
theorem dX11_vat_24 : decode cX11_vat 24 = .ok (.invokestatic 115, 3) := by decide +kernel
theorem dX11_vat_27 : decode cX11_vat 27 = .ok (.ifCond .eq 13, 3) := by decide +kernel
theorem dX11_vat_30 : decode cX11_vat 30 = .ok (.iload 4, 2) := by decide +kernel
theorem dX11_vat_32 : decode cX11_vat 32 = .ok (.iconst 0, 1) := by decide +kernel
theorem dX11_vat_33 : decode cX11_vat 33 = .ok (.iload_n 3, 1) := by decide +kernel
theorem dX11_vat_34 : decode cX11_vat 34 = .ok (.invokestatic 115, 3) := by decide +kernel
theorem dX11_vat_37 : decode cX11_vat 37 = .ok (.ifCond .ne 5, 3) := by decide +kernel
theorem dX11_vat_40 : decode cX11_vat 40 = .ok (.iconst 0, 1) := by decide +kernel
theorem dX11_vat_41 : decode cX11_vat 41 = .ok (.ireturn, 1) := by decide +kernel
theorem dX11_vat_42 : decode cX11_vat 42 = .ok (.aload_n 0, 1) := by decide +kernel
theorem dX11_vat_43 : decode cX11_vat 43 = .ok (.getfield 19, 3) := by decide +kernel
theorem dX11_vat_46 : decode cX11_vat 46 = .ok (.iload_n 1, 1) := by decide +kernel
theorem dX11_vat_47 : decode cX11_vat 47 = .ok (.iload_n 2, 1) := by decide +kernel
theorem dX11_vat_48 : decode cX11_vat 48 = .ok (.iload_n 3, 1) := by decide +kernel
theorem dX11_vat_49 : decode cX11_vat 49 = .ok (.iload 4, 2) := by decide +kernel
theorem dX11_vat_51 : decode cX11_vat 51 = .ok (.invokevirtual 119, 3) := by decide +kernel
theorem dX11_vat_54 : decode cX11_vat 54 = .ok (.iconst 1, 1) := by decide +kernel
theorem dX11_vat_55 : decode cX11_vat 55 = .ok (.ireturn, 1) := by decide +kernel
theorem dX11_feed_0 : decode cX11_feed 0 = .ok (.aload_n 0, 1) := by decide +kernel
theorem dX11_feed_1 : decode cX11_feed 1 = .ok (.getfield 10, 3) := by decide +kernel
theorem dX11_feed_4 : decode cX11_feed 4 = .ok (.invokevirtual 123, 3) := by decide +kernel
theorem dX11_feed_7 : decode cX11_feed 7 = .ok (.ifCond .ne 5, 3) := by decide +kernel
theorem dX11_feed_10 : decode cX11_feed 10 = .ok (.iconst (-1), 1) := by decide +kernel
theorem dX11_feed_11 : decode cX11_feed 11 = .ok (.ireturn, 1) := by decide +kernel
theorem dX11_feed_12 : decode cX11_feed 12 = .ok (.aload_n 0, 1) := by decide +kernel
theorem dX11_feed_13 : decode cX11_feed 13 = .ok (.getfield 10, 3) := by decide +kernel
theorem dX11_feed_16 : decode cX11_feed 16 = .ok (.iload_n 1, 1) := by decide +kernel
theorem dX11_feed_17 : decode cX11_feed 17 = .ok (.invokevirtual 127, 3) := by decide +kernel
theorem dX11_feed_20 : decode cX11_feed 20 = .ok (.aload_n 0, 1) := by decide +kernel
theorem dX11_feed_21 : decode cX11_feed 21 = .ok (.getfield 10, 3) := by decide +kernel
theorem dX11_feed_24 : decode cX11_feed 24 = .ok (.iload_n 2, 1) := by decide +kernel
theorem dX11_feed_25 : decode cX11_feed 25 = .ok (.invokevirtual 127, 3) := by decide +kernel
theorem dX11_feed_28 : decode cX11_feed 28 = .ok (.aload_n 0, 1) := by decide +kernel
theorem dX11_feed_29 : decode cX11_feed 29 = .ok (.getfield 10, 3) := by decide +kernel
theorem dX11_feed_32 : decode cX11_feed 32 = .ok (.iload_n 3, 1) := by decide +kernel
theorem dX11_feed_33 : decode cX11_feed 33 = .ok (.invokevirtual 127, 3) := by decide +kernel
theorem dX11_feed_36 : decode cX11_feed 36 = .ok (.aload_n 0, 1) := by decide +kernel
theorem dX11_feed_37 : decode cX11_feed 37 = .ok (.getfield 10, 3) := by decide +kernel
theorem dX11_feed_40 : decode cX11_feed 40 = .ok (.iload 4, 2) := by decide +kernel
theorem dX11_feed_42 : decode cX11_feed 42 = .ok (.invokevirtual 127, 3) := by decide +kernel
theorem dX11_feed_45 : decode cX11_feed 45 = .ok (.aload_n 0, 1) := by decide +kernel
theorem dX11_feed_46 : decode cX11_feed 46 = .ok (.getfield 10, 3) := by decide +kernel
theorem dX11_feed_49 : decode cX11_feed 49 = .ok (.iload 5, 2) := by decide +kernel
theorem dX11_feed_51 : decode cX11_feed 51 = .ok (.invokevirtual 127, 3) := by decide +kernel
theorem dX11_feed_54 : decode cX11_feed 54 = .ok (.aload_n 0, 1) := by decide +kernel
theorem dX11_feed_55 : decode cX11_feed 55 = .ok (.getfield 10, 3) := by decide +kernel
theorem dX11_feed_58 : decode cX11_feed 58 = .ok (.getfield 131, 3) := by decide +kernel
theorem dX11_feed_61 : decode cX11_feed 61 = .ok (.ireturn, 1) := by decide +kernel
theorem dX11_recipe_0 : decode cX11_recipe 0 = .ok (.iload_n 1, 1) := by decide +kernel
theorem dX11_recipe_1 : decode cX11_recipe 1 = .ok (.invokestatic 134, 3) := by decide +kernel
theorem dX11_recipe_4 : decode cX11_recipe 4 = .ok (.ifCond .eq 11, 3) := by decide +kernel
theorem dX11_recipe_7 : decode cX11_recipe 7 = .ok (.aload_n 0, 1) := by decide +kernel
theorem dX11_recipe_8 : decode cX11_recipe 8 = .ok (.iload_n 2, 1) := by decide +kernel
theorem dX11_recipe_9 : decode cX11_recipe 9 = .ok (.invokevirtual 138, 3) := by decide +kernel
theorem dX11_recipe_12 : decode cX11_recipe 12 = .ok (.ifCond .ne 5, 3) := by decide +kernel
theorem dX11_recipe_15 : decode cX11_recipe 15 = .ok (.iconst (-1), 1) := by decide +kernel
theorem dX11_recipe_16 : decode cX11_recipe 16 = .ok (.ireturn, 1) := by decide +kernel
theorem dX11_recipe_17 : decode cX11_recipe 17 = .ok (.aload_n 0, 1) := by decide +kernel
theorem dX11_recipe_18 : decode cX11_recipe 18 = .ok (.getfield 30, 3) := by decide +kernel
theorem dX11_recipe_21 : decode cX11_recipe 21 = .ok (.aload_n 0, 1) := by decide +kernel
theorem dX11_recipe_22 : decode cX11_recipe 22 = .ok (.getfield 10, 3) := by decide +kernel
theorem dX11_recipe_25 : decode cX11_recipe 25 = .ok (.iload_n 2, 1) := by decide +kernel
theorem dX11_recipe_26 : decode cX11_recipe 26 = .ok (.invokevirtual 141, 3) := by decide +kernel
theorem dX11_recipe_29 : decode cX11_recipe 29 = .ok (.istore_n 3, 1) := by decide +kernel
theorem dX11_recipe_30 : decode cX11_recipe 30 = .ok (.aload_n 0, 1) := by decide +kernel
theorem dX11_recipe_31 : decode cX11_recipe 31 = .ok (.getfield 10, 3) := by decide +kernel
theorem dX11_recipe_34 : decode cX11_recipe 34 = .ok (.invokevirtual 145, 3) := by decide +kernel
theorem dX11_recipe_37 : decode cX11_recipe 37 = .ok (.iload_n 3, 1) := by decide +kernel
theorem dX11_recipe_38 : decode cX11_recipe 38 = .ok (.ifCond .ne 11, 3) := by decide +kernel
theorem dX11_recipe_41 : decode cX11_recipe 41 = .ok (.aload_n 0, 1) := by decide +kernel
theorem dX11_recipe_42 : decode cX11_recipe 42 = .ok (.getfield 10, 3) := by decide +kernel
theorem dX11_recipe_45 : decode cX11_recipe 45 = .ok (.getfield 148, 3) := by decide +kernel
theorem dX11_recipe_48 : decode cX11_recipe 48 = .ok (.ireturn, 1) := by decide +kernel
theorem dX11_recipe_49 : decode cX11_recipe 49 = .ok (.aload_n 0, 1) := by decide +kernel
theorem dX11_recipe_50 : decode cX11_recipe 50 = .ok (.getfield 25, 3) := by decide +kernel
theorem dX11_recipe_53 : decode cX11_recipe 53 = .ok (.iload_n 1, 1) := by decide +kernel
theorem dX11_recipe_54 : decode cX11_recipe 54 = .ok (.aaload, 1) := by decide +kernel
theorem dX11_recipe_55 : decode cX11_recipe 55 = .ok (.astore 4, 2) := by decide +kernel
theorem dX11_recipe_57 : decode cX11_recipe 57 = .ok (.aload_n 0, 1) := by decide +kernel
theorem dX11_recipe_58 : decode cX11_recipe 58 = .ok (.getfield 25, 3) := by decide +kernel
theorem dX11_recipe_61 : decode cX11_recipe 61 = .ok (.iload_n 1, 1) := by decide +kernel
theorem dX11_recipe_62 : decode cX11_recipe 62 = .ok (.aload_n 0, 1) := by decide +kernel
theorem dX11_recipe_63 : decode cX11_recipe 63 = .ok (.getfield 30, 3) := by decide +kernel
theorem dX11_recipe_66 : decode cX11_recipe 66 = .ok (.aastore, 1) := by decide +kernel
theorem dX11_recipe_67 : decode cX11_recipe 67 = .ok (.aload_n 0, 1) := by decide +kernel
theorem dX11_recipe_68 : decode cX11_recipe 68 = .ok (.aload 4, 2) := by decide +kernel
theorem dX11_recipe_70 : decode cX11_recipe 70 = .ok (.putfield 30, 3) := by decide +kernel
theorem dX11_recipe_73 : decode cX11_recipe 73 = .ok (.aload_n 0, 1) := by decide +kernel
theorem dX11_recipe_74 : decode cX11_recipe 74 = .ok (.getfield 25, 3) := by decide +kernel
theorem dX11_recipe_77 : decode cX11_recipe 77 = .ok (.iload_n 1, 1) := by decide +kernel
theorem dX11_recipe_78 : decode cX11_recipe 78 = .ok (.aaload, 1) := by decide +kernel
theorem dX11_recipe_79 : decode cX11_recipe 79 = .ok (.getfield 151, 3) := by decide +kernel
theorem dX11_recipe_82 : decode cX11_recipe 82 = .ok (.ireturn, 1) := by decide +kernel
theorem dX11_spec_0 : decode cX11_spec 0 = .ok (.aload_n 0, 1) := by decide +kernel
theorem dX11_spec_1 : decode cX11_spec 1 = .ok (.iload_n 1, 1) := by decide +kernel
theorem dX11_spec_2 : decode cX11_spec 2 = .ok (.invokevirtual 138, 3) := by decide +kernel
theorem dX11_spec_5 : decode cX11_spec 5 = .ok (.ifCond .ne 5, 3) := by decide +kernel
theorem dX11_spec_8 : decode cX11_spec 8 = .ok (.iconst (-1), 1) := by decide +kernel
theorem dX11_spec_9 : decode cX11_spec 9 = .ok (.ireturn, 1) := by decide +kernel
theorem dX11_spec_10 : decode cX11_spec 10 = .ok (.aload_n 0, 1) := by decide +kernel
theorem dX11_spec_11 : decode cX11_spec 11 = .ok (.getfield 49, 3) := by decide +kernel
theorem dX11_spec_14 : decode cX11_spec 14 = .ok (.aload_n 0, 1) := by decide +kernel
theorem dX11_spec_15 : decode cX11_spec 15 = .ok (.getfield 41, 3) := by decide +kernel
theorem dX11_spec_18 : decode cX11_spec 18 = .ok (.iload_n 1, 1) := by decide +kernel
theorem dX11_spec_19 : decode cX11_spec 19 = .ok (.invokevirtual 154, 3) := by decide +kernel
theorem dX11_spec_22 : decode cX11_spec 22 = .ok (.istore_n 2, 1) := by decide +kernel
theorem dX11_spec_23 : decode cX11_spec 23 = .ok (.aload_n 0, 1) := by decide +kernel
theorem dX11_spec_24 : decode cX11_spec 24 = .ok (.getfield 10, 3) := by decide +kernel
theorem dX11_spec_27 : decode cX11_spec 27 = .ok (.invokevirtual 145, 3) := by decide +kernel
theorem dX11_spec_30 : decode cX11_spec 30 = .ok (.iload_n 2, 1) := by decide +kernel
theorem dX11_spec_31 : decode cX11_spec 31 = .ok (.ifCond .ne 11, 3) := by decide +kernel
theorem dX11_spec_34 : decode cX11_spec 34 = .ok (.aload_n 0, 1) := by decide +kernel
theorem dX11_spec_35 : decode cX11_spec 35 = .ok (.getfield 10, 3) := by decide +kernel
theorem dX11_spec_38 : decode cX11_spec 38 = .ok (.getfield 148, 3) := by decide +kernel
theorem dX11_spec_41 : decode cX11_spec 41 = .ok (.ireturn, 1) := by decide +kernel
theorem dX11_spec_42 : decode cX11_spec 42 = .ok (.aload_n 0, 1) := by decide +kernel
theorem dX11_spec_43 : decode cX11_spec 43 = .ok (.getfield 37, 3) := by decide +kernel
theorem dX11_spec_46 : decode cX11_spec 46 = .ok (.astore_n 3, 1) := by decide +kernel
theorem dX11_spec_47 : decode cX11_spec 47 = .ok (.aload_n 0, 1) := by decide +kernel
theorem dX11_spec_48 : decode cX11_spec 48 = .ok (.aload_n 0, 1) := by decide +kernel
theorem dX11_spec_49 : decode cX11_spec 49 = .ok (.getfield 41, 3) := by decide +kernel
theorem dX11_spec_52 : decode cX11_spec 52 = .ok (.putfield 37, 3) := by decide +kernel
theorem dX11_spec_55 : decode cX11_spec 55 = .ok (.aload_n 0, 1) := by decide +kernel
theorem dX11_spec_56 : decode cX11_spec 56 = .ok (.aload_n 3, 1) := by decide +kernel
theorem dX11_spec_57 : decode cX11_spec 57 = .ok (.putfield 41, 3) := by decide +kernel
theorem dX11_spec_60 : decode cX11_spec 60 = .ok (.iconst 1, 1) := by decide +kernel
theorem dX11_spec_61 : decode cX11_spec 61 = .ok (.ireturn, 1) := by decide +kernel
theorem dX11_run_0 : decode cX11_run 0 = .ok (.iload_n 3, 1) := by decide +kernel
theorem dX11_run_1 : decode cX11_run 1 = .ok (.iconst 0, 1) := by decide +kernel
theorem dX11_run_2 : decode cX11_run 2 = .ok (.iconst 5, 1) := by decide +kernel
theorem dX11_run_3 : decode cX11_run 3 = .ok (.invokestatic 115, 3) := by decide +kernel
theorem dX11_run_6 : decode cX11_run 6 = .ok (.ifCond .ne 14, 3) := by decide +kernel
theorem dX11_run_9 : decode cX11_run 9 = .ok (.iload_n 3, 1) := by decide +kernel
theorem dX11_run_10 : decode cX11_run 10 = .ok (.bipush 10, 2) := by decide +kernel
theorem dX11_run_12 : decode cX11_run 12 = .ok (.bipush 15, 2) := by decide +kernel
theorem dX11_run_14 : decode cX11_run 14 = .ok (.invokestatic 115, 3) := by decide +kernel
theorem dX11_run_17 : decode cX11_run 17 = .ok (.ifCond .eq 7, 3) := by decide +kernel
theorem dX11_run_20 : decode cX11_run 20 = .ok (.iconst 1, 1) := by decide +kernel
theorem dX11_run_21 : decode cX11_run 21 = .ok (.goto 4, 3) := by decide +kernel
theorem dX11_run_24 : decode cX11_run 24 = .ok (.iconst 0, 1) := by decide +kernel
theorem dX11_run_25 : decode cX11_run 25 = .ok (.istore 4, 2) := by decide +kernel
theorem dX11_run_27 : decode cX11_run 27 = .ok (.iload_n 1, 1) := by decide +kernel
theorem dX11_run_28 : decode cX11_run 28 = .ok (.invokestatic 134, 3) := by decide +kernel
theorem dX11_run_31 : decode cX11_run 31 = .ok (.ifCond .eq 19, 3) := by decide +kernel
theorem dX11_run_34 : decode cX11_run 34 = .ok (.iload_n 2, 1) := by decide +kernel
theorem dX11_run_35 : decode cX11_run 35 = .ok (.iconst 1, 1) := by decide +kernel
theorem dX11_run_36 : decode cX11_run 36 = .ok (.sipush 20000, 3) := by decide +kernel
theorem dX11_run_39 : decode cX11_run 39 = .ok (.invokestatic 115, 3) := by decide +kernel
theorem dX11_run_42 : decode cX11_run 42 = .ok (.ifCond .eq 8, 3) := by decide +kernel
theorem dX11_run_45 : decode cX11_run 45 = .ok (.iload 4, 2) := by decide +kernel
theorem dX11_run_47 : decode cX11_run 47 = .ok (.ifCond .ne 5, 3) := by decide +kernel
theorem dX11_run_50 : decode cX11_run 50 = .ok (.iconst (-1), 1) := by decide +kernel
theorem dX11_run_51 : decode cX11_run 51 = .ok (.ireturn, 1) := by decide +kernel
theorem dX11_run_52 : decode cX11_run 52 = .ok (.aload_n 0, 1) := by decide +kernel
theorem dX11_run_53 : decode cX11_run 53 = .ok (.getfield 58, 3) := by decide +kernel
theorem dX11_run_56 : decode cX11_run 56 = .ok (.aload_n 0, 1) := by decide +kernel
theorem dX11_run_57 : decode cX11_run 57 = .ok (.getfield 19, 3) := by decide +kernel
theorem dX11_run_60 : decode cX11_run 60 = .ok (.getfield 157, 3) := by decide +kernel
theorem dX11_run_63 : decode cX11_run 63 = .ok (.iconst 0, 1) := by decide +kernel
theorem dX11_run_64 : decode cX11_run 64 = .ok (.invokevirtual 161, 3) := by decide +kernel
theorem dX11_run_67 : decode cX11_run 67 = .ok (.aload_n 0, 1) := by decide +kernel
theorem dX11_run_68 : decode cX11_run 68 = .ok (.getfield 58, 3) := by decide +kernel
theorem dX11_run_71 : decode cX11_run 71 = .ok (.aload_n 0, 1) := by decide +kernel
theorem dX11_run_72 : decode cX11_run 72 = .ok (.getfield 25, 3) := by decide +kernel
theorem dX11_run_75 : decode cX11_run 75 = .ok (.iload_n 1, 1) := by decide +kernel
theorem dX11_run_76 : decode cX11_run 76 = .ok (.aaload, 1) := by decide +kernel
theorem dX11_run_77 : decode cX11_run 77 = .ok (.iload_n 2, 1) := by decide +kernel
theorem dX11_run_78 : decode cX11_run 78 = .ok (.invokevirtual 165, 3) := by decide +kernel
theorem dX11_run_81 : decode cX11_run 81 = .ok (.iload_n 3, 1) := by decide +kernel
theorem dX11_run_82 : decode cX11_run 82 = .ok (.tableswitch 98 0 5 #[38, 46, 54, 62, 70, 78], 38) := by decide +kernel
theorem dX11_run_120 : decode cX11_run 120 = .ok (.aload_n 0, 1) := by decide +kernel
theorem dX11_run_121 : decode cX11_run 121 = .ok (.getfield 58, 3) := by decide +kernel
theorem dX11_run_124 : decode cX11_run 124 = .ok (.getfield 169, 3) := by decide +kernel
theorem dX11_run_127 : decode cX11_run 127 = .ok (.ireturn, 1) := by decide +kernel
theorem dX11_run_128 : decode cX11_run 128 = .ok (.aload_n 0, 1) := by decide +kernel
theorem dX11_run_129 : decode cX11_run 129 = .ok (.getfield 58, 3) := by decide +kernel
theorem dX11_run_132 : decode cX11_run 132 = .ok (.getfield 172, 3) := by decide +kernel
theorem dX11_run_135 : decode cX11_run 135 = .ok (.ireturn, 1) := by decide +kernel
theorem dX11_run_136 : decode cX11_run 136 = .ok (.aload_n 0, 1) := by decide +kernel
theorem dX11_run_137 : decode cX11_run 137 = .ok (.getfield 58, 3) := by decide +kernel
theorem dX11_run_140 : decode cX11_run 140 = .ok (.getfield 175, 3) := by decide +kernel
theorem dX11_run_143 : decode cX11_run 143 = .ok (.ireturn, 1) := by decide +kernel
theorem dX11_run_144 : decode cX11_run 144 = .ok (.aload_n 0, 1) := by decide +kernel
theorem dX11_run_145 : decode cX11_run 145 = .ok (.getfield 58, 3) := by decide +kernel
theorem dX11_run_148 : decode cX11_run 148 = .ok (.getfield 178, 3) := by decide +kernel
theorem dX11_run_151 : decode cX11_run 151 = .ok (.ireturn, 1) := by decide +kernel
theorem dX11_run_152 : decode cX11_run 152 = .ok (.aload_n 0, 1) := by decide +kernel
theorem dX11_run_153 : decode cX11_run 153 = .ok (.getfield 58, 3) := by decide +kernel
theorem dX11_run_156 : decode cX11_run 156 = .ok (.getfield 181, 3) := by decide +kernel
theorem dX11_run_159 : decode cX11_run 159 = .ok (.ireturn, 1) := by decide +kernel
theorem dX11_run_160 : decode cX11_run 160 = .ok (.aload_n 0, 1) := by decide +kernel
theorem dX11_run_161 : decode cX11_run 161 = .ok (.getfield 37, 3) := by decide +kernel
theorem dX11_run_164 : decode cX11_run 164 = .ok (.aload_n 0, 1) := by decide +kernel
theorem dX11_run_165 : decode cX11_run 165 = .ok (.getfield 58, 3) := by decide +kernel
theorem dX11_run_168 : decode cX11_run 168 = .ok (.invokevirtual 184, 3) := by decide +kernel
theorem dX11_run_171 : decode cX11_run 171 = .ok (.ifCond .eq 7, 3) := by decide +kernel
theorem dX11_run_174 : decode cX11_run 174 = .ok (.iconst 1, 1) := by decide +kernel
theorem dX11_run_175 : decode cX11_run 175 = .ok (.goto 4, 3) := by decide +kernel
theorem dX11_run_178 : decode cX11_run 178 = .ok (.iconst 0, 1) := by decide +kernel
theorem dX11_run_179 : decode cX11_run 179 = .ok (.ireturn, 1) := by decide +kernel
theorem dX11_run_180 : decode cX11_run 180 = .ok (.aload_n 0, 1) := by decide +kernel
theorem dX11_run_181 : decode cX11_run 181 = .ok (.getfield 58, 3) := by decide +kernel
theorem dX11_run_184 : decode cX11_run 184 = .ok (.getfield 188, 3) := by decide +kernel
theorem dX11_run_187 : decode cX11_run 187 = .ok (.iload_n 3, 1) := by decide +kernel
theorem dX11_run_188 : decode cX11_run 188 = .ok (.bipush 10, 2) := by decide +kernel
theorem dX11_run_190 : decode cX11_run 190 = .ok (.isub, 1) := by decide +kernel
theorem dX11_run_191 : decode cX11_run 191 = .ok (.iaload, 1) := by decide +kernel
theorem dX11_run_192 : decode cX11_run 192 = .ok (.ireturn, 1) := by decide +kernel
theorem dX11_done_0 : decode cX11_done 0 = .ok (.iload_n 1, 1) := by decide +kernel
theorem dX11_done_1 : decode cX11_done 1 = .ok (.invokestatic 134, 3) := by decide +kernel
theorem dX11_done_4 : decode cX11_done 4 = .ok (.ifCond .eq 14, 3) := by decide +kernel
theorem dX11_done_7 : decode cX11_done 7 = .ok (.iload_n 2, 1) := by decide +kernel
theorem dX11_done_8 : decode cX11_done 8 = .ok (.iconst 1, 1) := by decide +kernel
theorem dX11_done_9 : decode cX11_done 9 = .ok (.sipush 20000, 3) := by decide +kernel
theorem dX11_done_12 : decode cX11_done 12 = .ok (.invokestatic 115, 3) := by decide +kernel
theorem dX11_done_15 : decode cX11_done 15 = .ok (.ifCond .ne 5, 3) := by decide +kernel
theorem dX11_done_18 : decode cX11_done 18 = .ok (.iconst (-1), 1) := by decide +kernel
theorem dX11_done_19 : decode cX11_done 19 = .ok (.ireturn, 1) := by decide +kernel
theorem dX11_done_20 : decode cX11_done 20 = .ok (.aload_n 0, 1) := by decide +kernel
theorem dX11_done_21 : decode cX11_done 21 = .ok (.getfield 58, 3) := by decide +kernel
theorem dX11_done_24 : decode cX11_done 24 = .ok (.aload_n 0, 1) := by decide +kernel
theorem dX11_done_25 : decode cX11_done 25 = .ok (.getfield 19, 3) := by decide +kernel
theorem dX11_done_28 : decode cX11_done 28 = .ok (.getfield 157, 3) := by decide +kernel
theorem dX11_done_31 : decode cX11_done 31 = .ok (.aload_n 0, 1) := by decide +kernel
theorem dX11_done_32 : decode cX11_done 32 = .ok (.getfield 100, 3) := by decide +kernel
theorem dX11_done_35 : decode cX11_done 35 = .ok (.getfield 191, 3) := by decide +kernel
theorem dX11_done_38 : decode cX11_done 38 = .ok (.invokevirtual 161, 3) := by decide +kernel
theorem dX11_done_41 : decode cX11_done 41 = .ok (.aload_n 0, 1) := by decide +kernel
theorem dX11_done_42 : decode cX11_done 42 = .ok (.getfield 58, 3) := by decide +kernel
theorem dX11_done_45 : decode cX11_done 45 = .ok (.aload_n 0, 1) := by decide +kernel
theorem dX11_done_46 : decode cX11_done 46 = .ok (.getfield 25, 3) := by decide +kernel
theorem dX11_done_49 : decode cX11_done 49 = .ok (.iload_n 1, 1) := by decide +kernel
theorem dX11_done_50 : decode cX11_done 50 = .ok (.aaload, 1) := by decide +kernel
theorem dX11_done_51 : decode cX11_done 51 = .ok (.iload_n 2, 1) := by decide +kernel
theorem dX11_done_52 : decode cX11_done 52 = .ok (.invokevirtual 165, 3) := by decide +kernel
theorem dX11_done_55 : decode cX11_done 55 = .ok (.aload_n 0, 1) := by decide +kernel
theorem dX11_done_56 : decode cX11_done 56 = .ok (.getfield 58, 3) := by decide +kernel
theorem dX11_done_59 : decode cX11_done 59 = .ok (.getfield 188, 3) := by decide +kernel
theorem dX11_done_62 : decode cX11_done 62 = .ok (.aload_n 0, 1) := by decide +kernel
theorem dX11_done_63 : decode cX11_done 63 = .ok (.getfield 19, 3) := by decide +kernel
theorem dX11_done_66 : decode cX11_done 66 = .ok (.getfield 157, 3) := by decide +kernel
theorem dX11_done_69 : decode cX11_done 69 = .ok (.invokestatic 192, 3) := by decide +kernel
theorem dX11_done_72 : decode cX11_done 72 = .ok (.aload_n 0, 1) := by decide +kernel
theorem dX11_done_73 : decode cX11_done 73 = .ok (.getfield 100, 3) := by decide +kernel
theorem dX11_done_76 : decode cX11_done 76 = .ok (.dup, 1) := by decide +kernel
theorem dX11_done_77 : decode cX11_done 77 = .ok (.getfield 196, 3) := by decide +kernel
theorem dX11_done_80 : decode cX11_done 80 = .ok (.aload_n 0, 1) := by decide +kernel
theorem dX11_done_81 : decode cX11_done 81 = .ok (.getfield 58, 3) := by decide +kernel
theorem dX11_done_84 : decode cX11_done 84 = .ok (.getfield 175, 3) := by decide +kernel
theorem dX11_done_87 : decode cX11_done 87 = .ok (.iadd, 1) := by decide +kernel
theorem dX11_done_88 : decode cX11_done 88 = .ok (.putfield 196, 3) := by decide +kernel
theorem dX11_done_91 : decode cX11_done 91 = .ok (.aload_n 0, 1) := by decide +kernel
theorem dX11_done_92 : decode cX11_done 92 = .ok (.getfield 100, 3) := by decide +kernel
theorem dX11_done_95 : decode cX11_done 95 = .ok (.dup, 1) := by decide +kernel
theorem dX11_done_96 : decode cX11_done 96 = .ok (.getfield 197, 3) := by decide +kernel
theorem dX11_done_99 : decode cX11_done 99 = .ok (.aload_n 0, 1) := by decide +kernel
theorem dX11_done_100 : decode cX11_done 100 = .ok (.getfield 58, 3) := by decide +kernel
theorem dX11_done_103 : decode cX11_done 103 = .ok (.getfield 178, 3) := by decide +kernel
theorem dX11_done_106 : decode cX11_done 106 = .ok (.iadd, 1) := by decide +kernel
theorem dX11_done_107 : decode cX11_done 107 = .ok (.putfield 197, 3) := by decide +kernel
theorem dX11_done_110 : decode cX11_done 110 = .ok (.aload_n 0, 1) := by decide +kernel
theorem dX11_done_111 : decode cX11_done 111 = .ok (.getfield 100, 3) := by decide +kernel
theorem dX11_done_114 : decode cX11_done 114 = .ok (.aload_n 0, 1) := by decide +kernel
theorem dX11_done_115 : decode cX11_done 115 = .ok (.getfield 58, 3) := by decide +kernel
theorem dX11_done_118 : decode cX11_done 118 = .ok (.getfield 181, 3) := by decide +kernel
theorem dX11_done_121 : decode cX11_done 121 = .ok (.putfield 191, 3) := by decide +kernel
theorem dX11_done_124 : decode cX11_done 124 = .ok (.aload_n 0, 1) := by decide +kernel
theorem dX11_done_125 : decode cX11_done 125 = .ok (.getfield 58, 3) := by decide +kernel
theorem dX11_done_128 : decode cX11_done 128 = .ok (.getfield 169, 3) := by decide +kernel
theorem dX11_done_131 : decode cX11_done 131 = .ok (.ireturn, 1) := by decide +kernel
theorem dX11_proved_0 : decode cX11_proved 0 = .ok (.iload_n 1, 1) := by decide +kernel
theorem dX11_proved_1 : decode cX11_proved 1 = .ok (.invokestatic 134, 3) := by decide +kernel
theorem dX11_proved_4 : decode cX11_proved 4 = .ok (.ifCond .eq 13, 3) := by decide +kernel
theorem dX11_proved_7 : decode cX11_proved 7 = .ok (.iload_n 2, 1) := by decide +kernel
theorem dX11_proved_8 : decode cX11_proved 8 = .ok (.iload_n 3, 1) := by decide +kernel
theorem dX11_proved_9 : decode cX11_proved 9 = .ok (.iload 4, 2) := by decide +kernel
theorem dX11_proved_11 : decode cX11_proved 11 = .ok (.invokestatic 198, 3) := by decide +kernel
theorem dX11_proved_14 : decode cX11_proved 14 = .ok (.ifCond .ne 6, 3) := by decide +kernel
theorem dX11_proved_17 : decode cX11_proved 17 = .ok (.bipush (-3), 2) := by decide +kernel
theorem dX11_proved_19 : decode cX11_proved 19 = .ok (.ireturn, 1) := by decide +kernel
theorem dX11_proved_20 : decode cX11_proved 20 = .ok (.aload_n 0, 1) := by decide +kernel
theorem dX11_proved_21 : decode cX11_proved 21 = .ok (.getfield 70, 3) := by decide +kernel
theorem dX11_proved_24 : decode cX11_proved 24 = .ok (.iload_n 2, 1) := by decide +kernel
theorem dX11_proved_25 : decode cX11_proved 25 = .ok (.iload_n 3, 1) := by decide +kernel
theorem dX11_proved_26 : decode cX11_proved 26 = .ok (.invokevirtual 201, 3) := by decide +kernel
theorem dX11_proved_29 : decode cX11_proved 29 = .ok (.aload_n 0, 1) := by decide +kernel
theorem dX11_proved_30 : decode cX11_proved 30 = .ok (.getfield 70, 3) := by decide +kernel
theorem dX11_proved_33 : decode cX11_proved 33 = .ok (.aload_n 0, 1) := by decide +kernel
theorem dX11_proved_34 : decode cX11_proved 34 = .ok (.getfield 25, 3) := by decide +kernel
theorem dX11_proved_37 : decode cX11_proved 37 = .ok (.iload_n 1, 1) := by decide +kernel
theorem dX11_proved_38 : decode cX11_proved 38 = .ok (.aaload, 1) := by decide +kernel
theorem dX11_proved_39 : decode cX11_proved 39 = .ok (.aload_n 0, 1) := by decide +kernel
theorem dX11_proved_40 : decode cX11_proved 40 = .ok (.getfield 37, 3) := by decide +kernel
theorem dX11_proved_43 : decode cX11_proved 43 = .ok (.iload 4, 2) := by decide +kernel
theorem dX11_proved_45 : decode cX11_proved 45 = .ok (.invokevirtual 205, 3) := by decide +kernel
theorem dX11_proved_48 : decode cX11_proved 48 = .ok (.ireturn, 1) := by decide +kernel
theorem dX11_alike_0 : decode cX11_alike 0 = .ok (.iload_n 1, 1) := by decide +kernel
theorem dX11_alike_1 : decode cX11_alike 1 = .ok (.invokestatic 134, 3) := by decide +kernel
theorem dX11_alike_4 : decode cX11_alike 4 = .ok (.ifCond .eq 21, 3) := by decide +kernel
theorem dX11_alike_7 : decode cX11_alike 7 = .ok (.iload_n 2, 1) := by decide +kernel
theorem dX11_alike_8 : decode cX11_alike 8 = .ok (.invokestatic 134, 3) := by decide +kernel
theorem dX11_alike_11 : decode cX11_alike 11 = .ok (.ifCond .eq 14, 3) := by decide +kernel
theorem dX11_alike_14 : decode cX11_alike 14 = .ok (.iload_n 3, 1) := by decide +kernel
theorem dX11_alike_15 : decode cX11_alike 15 = .ok (.iload 4, 2) := by decide +kernel
theorem dX11_alike_17 : decode cX11_alike 17 = .ok (.iload 5, 2) := by decide +kernel
theorem dX11_alike_19 : decode cX11_alike 19 = .ok (.invokestatic 198, 3) := by decide +kernel
theorem dX11_alike_22 : decode cX11_alike 22 = .ok (.ifCond .ne 6, 3) := by decide +kernel
theorem dX11_alike_25 : decode cX11_alike 25 = .ok (.bipush (-3), 2) := by decide +kernel
theorem dX11_alike_27 : decode cX11_alike 27 = .ok (.ireturn, 1) := by decide +kernel
theorem dX11_alike_28 : decode cX11_alike 28 = .ok (.aload_n 0, 1) := by decide +kernel
theorem dX11_alike_29 : decode cX11_alike 29 = .ok (.getfield 70, 3) := by decide +kernel
theorem dX11_alike_32 : decode cX11_alike 32 = .ok (.iload_n 3, 1) := by decide +kernel
theorem dX11_alike_33 : decode cX11_alike 33 = .ok (.iload 4, 2) := by decide +kernel
theorem dX11_alike_35 : decode cX11_alike 35 = .ok (.invokevirtual 201, 3) := by decide +kernel
theorem dX11_alike_38 : decode cX11_alike 38 = .ok (.aload_n 0, 1) := by decide +kernel
theorem dX11_alike_39 : decode cX11_alike 39 = .ok (.getfield 70, 3) := by decide +kernel
theorem dX11_alike_42 : decode cX11_alike 42 = .ok (.aload_n 0, 1) := by decide +kernel
theorem dX11_alike_43 : decode cX11_alike 43 = .ok (.getfield 25, 3) := by decide +kernel
theorem dX11_alike_46 : decode cX11_alike 46 = .ok (.iload_n 1, 1) := by decide +kernel
theorem dX11_alike_47 : decode cX11_alike 47 = .ok (.aaload, 1) := by decide +kernel
theorem dX11_alike_48 : decode cX11_alike 48 = .ok (.aload_n 0, 1) := by decide +kernel
theorem dX11_alike_49 : decode cX11_alike 49 = .ok (.getfield 25, 3) := by decide +kernel
theorem dX11_alike_52 : decode cX11_alike 52 = .ok (.iload_n 2, 1) := by decide +kernel
theorem dX11_alike_53 : decode cX11_alike 53 = .ok (.aaload, 1) := by decide +kernel
theorem dX11_alike_54 : decode cX11_alike 54 = .ok (.iload 5, 2) := by decide +kernel
theorem dX11_alike_56 : decode cX11_alike 56 = .ok (.invokevirtual 209, 3) := by decide +kernel
theorem dX11_alike_59 : decode cX11_alike 59 = .ok (.ireturn, 1) := by decide +kernel
theorem dX11_fit_0 : decode cX11_fit 0 = .ok (.iload_n 1, 1) := by decide +kernel
theorem dX11_fit_1 : decode cX11_fit 1 = .ok (.invokestatic 134, 3) := by decide +kernel
theorem dX11_fit_4 : decode cX11_fit 4 = .ok (.ifCond .eq 25, 3) := by decide +kernel
theorem dX11_fit_7 : decode cX11_fit 7 = .ok (.iload 4, 2) := by decide +kernel
theorem dX11_fit_9 : decode cX11_fit 9 = .ok (.iconst 0, 1) := by decide +kernel
theorem dX11_fit_10 : decode cX11_fit 10 = .ok (.sipush 1008, 3) := by decide +kernel
theorem dX11_fit_13 : decode cX11_fit 13 = .ok (.invokestatic 115, 3) := by decide +kernel
theorem dX11_fit_16 : decode cX11_fit 16 = .ok (.ifCond .eq 13, 3) := by decide +kernel
theorem dX11_fit_19 : decode cX11_fit 19 = .ok (.iload_n 2, 1) := by decide +kernel
theorem dX11_fit_20 : decode cX11_fit 20 = .ok (.iload_n 3, 1) := by decide +kernel
theorem dX11_fit_21 : decode cX11_fit 21 = .ok (.iload 5, 2) := by decide +kernel
theorem dX11_fit_23 : decode cX11_fit 23 = .ok (.invokestatic 198, 3) := by decide +kernel
theorem dX11_fit_26 : decode cX11_fit 26 = .ok (.ifCond .ne 6, 3) := by decide +kernel
theorem dX11_fit_29 : decode cX11_fit 29 = .ok (.bipush (-3), 2) := by decide +kernel
theorem dX11_fit_31 : decode cX11_fit 31 = .ok (.ireturn, 1) := by decide +kernel
theorem dX11_fit_32 : decode cX11_fit 32 = .ok (.aload_n 0, 1) := by decide +kernel
theorem dX11_fit_33 : decode cX11_fit 33 = .ok (.getfield 70, 3) := by decide +kernel
theorem dX11_fit_36 : decode cX11_fit 36 = .ok (.iload_n 2, 1) := by decide +kernel
theorem dX11_fit_37 : decode cX11_fit 37 = .ok (.iload_n 3, 1) := by decide +kernel
theorem dX11_fit_38 : decode cX11_fit 38 = .ok (.invokevirtual 201, 3) := by decide +kernel
theorem dX11_fit_41 : decode cX11_fit 41 = .ok (.aload_n 0, 1) := by decide +kernel
theorem dX11_fit_42 : decode cX11_fit 42 = .ok (.getfield 70, 3) := by decide +kernel
theorem dX11_fit_45 : decode cX11_fit 45 = .ok (.aload_n 0, 1) := by decide +kernel
theorem dX11_fit_46 : decode cX11_fit 46 = .ok (.getfield 25, 3) := by decide +kernel
theorem dX11_fit_49 : decode cX11_fit 49 = .ok (.iload_n 1, 1) := by decide +kernel
theorem dX11_fit_50 : decode cX11_fit 50 = .ok (.aaload, 1) := by decide +kernel
theorem dX11_fit_51 : decode cX11_fit 51 = .ok (.iload 4, 2) := by decide +kernel
theorem dX11_fit_53 : decode cX11_fit 53 = .ok (.iload 5, 2) := by decide +kernel
theorem dX11_fit_55 : decode cX11_fit 55 = .ok (.invokevirtual 213, 3) := by decide +kernel
theorem dX11_fit_58 : decode cX11_fit 58 = .ok (.ireturn, 1) := by decide +kernel
theorem dX11_round_0 : decode cX11_round 0 = .ok (.iload_n 1, 1) := by decide +kernel
theorem dX11_round_1 : decode cX11_round 1 = .ok (.invokestatic 134, 3) := by decide +kernel
theorem dX11_round_4 : decode cX11_round 4 = .ok (.ifCond .eq 12, 3) := by decide +kernel
theorem dX11_round_7 : decode cX11_round 7 = .ok (.iload_n 2, 1) := by decide +kernel
theorem dX11_round_8 : decode cX11_round 8 = .ok (.iconst 0, 1) := by decide +kernel
theorem dX11_round_9 : decode cX11_round 9 = .ok (.iconst 2, 1) := by decide +kernel
theorem dX11_round_10 : decode cX11_round 10 = .ok (.invokestatic 115, 3) := by decide +kernel
theorem dX11_round_13 : decode cX11_round 13 = .ok (.ifCond .ne 5, 3) := by decide +kernel
theorem dX11_round_16 : decode cX11_round 16 = .ok (.iconst (-1), 1) := by decide +kernel
theorem dX11_round_17 : decode cX11_round 17 = .ok (.ireturn, 1) := by decide +kernel
theorem dX11_round_18 : decode cX11_round 18 = .ok (.aload_n 0, 1) := by decide +kernel
theorem dX11_round_19 : decode cX11_round 19 = .ok (.getfield 77, 3) := by decide +kernel
theorem dX11_round_22 : decode cX11_round 22 = .ok (.aload_n 0, 1) := by decide +kernel
theorem dX11_round_23 : decode cX11_round 23 = .ok (.getfield 25, 3) := by decide +kernel
theorem dX11_round_26 : decode cX11_round 26 = .ok (.iload_n 1, 1) := by decide +kernel
theorem dX11_round_27 : decode cX11_round 27 = .ok (.aaload, 1) := by decide +kernel
theorem dX11_round_28 : decode cX11_round 28 = .ok (.invokevirtual 217, 3) := by decide +kernel
theorem dX11_round_31 : decode cX11_round 31 = .ok (.iload_n 2, 1) := by decide +kernel
theorem dX11_round_32 : decode cX11_round 32 = .ok (.ifCond .ne 11, 3) := by decide +kernel
theorem dX11_round_35 : decode cX11_round 35 = .ok (.aload_n 0, 1) := by decide +kernel
theorem dX11_round_36 : decode cX11_round 36 = .ok (.getfield 77, 3) := by decide +kernel
theorem dX11_round_39 : decode cX11_round 39 = .ok (.getfield 221, 3) := by decide +kernel
theorem dX11_round_42 : decode cX11_round 42 = .ok (.ireturn, 1) := by decide +kernel
theorem dX11_round_43 : decode cX11_round 43 = .ok (.aload_n 0, 1) := by decide +kernel
theorem dX11_round_44 : decode cX11_round 44 = .ok (.getfield 77, 3) := by decide +kernel
theorem dX11_round_47 : decode cX11_round 47 = .ok (.getfield 221, 3) := by decide +kernel
theorem dX11_round_50 : decode cX11_round 50 = .ok (.iconst 1, 1) := by decide +kernel
theorem dX11_round_51 : decode cX11_round 51 = .ok (.if_icmp .eq 6, 3) := by decide +kernel
theorem dX11_round_54 : decode cX11_round 54 = .ok (.bipush (-2), 2) := by decide +kernel
theorem dX11_round_56 : decode cX11_round 56 = .ok (.ireturn, 1) := by decide +kernel
theorem dX11_round_57 : decode cX11_round 57 = .ok (.iload_n 2, 1) := by decide +kernel
theorem dX11_round_58 : decode cX11_round 58 = .ok (.iconst 1, 1) := by decide +kernel
theorem dX11_round_59 : decode cX11_round 59 = .ok (.if_icmp .ne 13, 3) := by decide +kernel
theorem dX11_round_62 : decode cX11_round 62 = .ok (.aload_n 0, 1) := by decide +kernel
theorem dX11_round_63 : decode cX11_round 63 = .ok (.getfield 77, 3) := by decide +kernel
theorem dX11_round_66 : decode cX11_round 66 = .ok (.getfield 224, 3) := by decide +kernel
theorem dX11_round_69 : decode cX11_round 69 = .ok (.goto 10, 3) := by decide +kernel
theorem dX11_round_72 : decode cX11_round 72 = .ok (.aload_n 0, 1) := by decide +kernel
theorem dX11_round_73 : decode cX11_round 73 = .ok (.getfield 77, 3) := by decide +kernel
theorem dX11_round_76 : decode cX11_round 76 = .ok (.getfield 227, 3) := by decide +kernel
theorem dX11_round_79 : decode cX11_round 79 = .ok (.ireturn, 1) := by decide +kernel
theorem dX11_shortest_0 : decode cX11_shortest 0 = .ok (.iload_n 1, 1) := by decide +kernel
theorem dX11_shortest_1 : decode cX11_shortest 1 = .ok (.iconst (-1), 1) := by decide +kernel
theorem dX11_shortest_2 : decode cX11_shortest 2 = .ok (.bipush 99, 2) := by decide +kernel
theorem dX11_shortest_4 : decode cX11_shortest 4 = .ok (.invokestatic 115, 3) := by decide +kernel
theorem dX11_shortest_7 : decode cX11_shortest 7 = .ok (.ifCond .eq 15, 3) := by decide +kernel
theorem dX11_shortest_10 : decode cX11_shortest 10 = .ok (.aload_n 0, 1) := by decide +kernel
theorem dX11_shortest_11 : decode cX11_shortest 11 = .ok (.getfield 10, 3) := by decide +kernel
theorem dX11_shortest_14 : decode cX11_shortest 14 = .ok (.getfield 131, 3) := by decide +kernel
theorem dX11_shortest_17 : decode cX11_shortest 17 = .ok (.bipush 6, 2) := by decide +kernel
theorem dX11_shortest_19 : decode cX11_shortest 19 = .ok (.if_icmp .ge 6, 3) := by decide +kernel
theorem dX11_shortest_22 : decode cX11_shortest 22 = .ok (.bipush (-4), 2) := by decide +kernel
theorem dX11_shortest_24 : decode cX11_shortest 24 = .ok (.ireturn, 1) := by decide +kernel
theorem dX11_shortest_25 : decode cX11_shortest 25 = .ok (.aload_n 0, 1) := by decide +kernel
theorem dX11_shortest_26 : decode cX11_shortest 26 = .ok (.getfield 10, 3) := by decide +kernel
theorem dX11_shortest_29 : decode cX11_shortest 29 = .ok (.aload_n 0, 1) := by decide +kernel
theorem dX11_shortest_30 : decode cX11_shortest 30 = .ok (.getfield 86, 3) := by decide +kernel
theorem dX11_shortest_33 : decode cX11_shortest 33 = .ok (.getfield 228, 3) := by decide +kernel
theorem dX11_shortest_36 : decode cX11_shortest 36 = .ok (.invokevirtual 231, 3) := by decide +kernel
theorem dX11_shortest_39 : decode cX11_shortest 39 = .ok (.aload_n 0, 1) := by decide +kernel
theorem dX11_shortest_40 : decode cX11_shortest 40 = .ok (.getfield 10, 3) := by decide +kernel
theorem dX11_shortest_43 : decode cX11_shortest 43 = .ok (.invokevirtual 145, 3) := by decide +kernel
theorem dX11_shortest_46 : decode cX11_shortest 46 = .ok (.aload_n 0, 1) := by decide +kernel
theorem dX11_shortest_47 : decode cX11_shortest 47 = .ok (.getfield 86, 3) := by decide +kernel
theorem dX11_shortest_50 : decode cX11_shortest 50 = .ok (.invokevirtual 235, 3) := by decide +kernel
theorem dX11_shortest_53 : decode cX11_shortest 53 = .ok (.ifCond .ne 6, 3) := by decide +kernel
theorem dX11_shortest_56 : decode cX11_shortest 56 = .ok (.bipush (-3), 2) := by decide +kernel
theorem dX11_shortest_58 : decode cX11_shortest 58 = .ok (.ireturn, 1) := by decide +kernel
theorem dX11_shortest_59 : decode cX11_shortest 59 = .ok (.aload_n 0, 1) := by decide +kernel
theorem dX11_shortest_60 : decode cX11_shortest 60 = .ok (.getfield 86, 3) := by decide +kernel
theorem dX11_shortest_63 : decode cX11_shortest 63 = .ok (.invokevirtual 238, 3) := by decide +kernel
theorem dX11_shortest_66 : decode cX11_shortest 66 = .ok (.istore_n 2, 1) := by decide +kernel
theorem dX11_shortest_67 : decode cX11_shortest 67 = .ok (.iload_n 2, 1) := by decide +kernel
theorem dX11_shortest_68 : decode cX11_shortest 68 = .ok (.ifCond .ge 6, 3) := by decide +kernel
theorem dX11_shortest_71 : decode cX11_shortest 71 = .ok (.bipush (-2), 2) := by decide +kernel
theorem dX11_shortest_73 : decode cX11_shortest 73 = .ok (.ireturn, 1) := by decide +kernel
theorem dX11_shortest_74 : decode cX11_shortest 74 = .ok (.iload_n 1, 1) := by decide +kernel
theorem dX11_shortest_75 : decode cX11_shortest 75 = .ok (.iconst (-1), 1) := by decide +kernel
theorem dX11_shortest_76 : decode cX11_shortest 76 = .ok (.if_icmp .ne 5, 3) := by decide +kernel
theorem dX11_shortest_79 : decode cX11_shortest 79 = .ok (.iload_n 2, 1) := by decide +kernel
theorem dX11_shortest_80 : decode cX11_shortest 80 = .ok (.ireturn, 1) := by decide +kernel
theorem dX11_shortest_81 : decode cX11_shortest 81 = .ok (.iload_n 1, 1) := by decide +kernel
theorem dX11_shortest_82 : decode cX11_shortest 82 = .ok (.iload_n 2, 1) := by decide +kernel
theorem dX11_shortest_83 : decode cX11_shortest 83 = .ok (.if_icmp .ge 15, 3) := by decide +kernel
theorem dX11_shortest_86 : decode cX11_shortest 86 = .ok (.aload_n 0, 1) := by decide +kernel
theorem dX11_shortest_87 : decode cX11_shortest 87 = .ok (.getfield 86, 3) := by decide +kernel
theorem dX11_shortest_90 : decode cX11_shortest 90 = .ok (.getfield 241, 3) := by decide +kernel
theorem dX11_shortest_93 : decode cX11_shortest 93 = .ok (.iload_n 1, 1) := by decide +kernel
theorem dX11_shortest_94 : decode cX11_shortest 94 = .ok (.iaload, 1) := by decide +kernel
theorem dX11_shortest_95 : decode cX11_shortest 95 = .ok (.goto 5, 3) := by decide +kernel
theorem dX11_shortest_98 : decode cX11_shortest 98 = .ok (.bipush (-4), 2) := by decide +kernel
theorem dX11_shortest_100 : decode cX11_shortest 100 = .ok (.ireturn, 1) := by decide +kernel
theorem dX11_slips_0 : decode cX11_slips 0 = .ok (.iload_n 1, 1) := by decide +kernel
theorem dX11_slips_1 : decode cX11_slips 1 = .ok (.invokestatic 134, 3) := by decide +kernel
theorem dX11_slips_4 : decode cX11_slips 4 = .ok (.ifCond .eq 23, 3) := by decide +kernel
theorem dX11_slips_7 : decode cX11_slips 7 = .ok (.iload_n 2, 1) := by decide +kernel
theorem dX11_slips_8 : decode cX11_slips 8 = .ok (.iconst 1, 1) := by decide +kernel
theorem dX11_slips_9 : decode cX11_slips 9 = .ok (.sipush 2000, 3) := by decide +kernel
theorem dX11_slips_12 : decode cX11_slips 12 = .ok (.invokestatic 115, 3) := by decide +kernel
theorem dX11_slips_15 : decode cX11_slips 15 = .ok (.ifCond .eq 12, 3) := by decide +kernel
theorem dX11_slips_18 : decode cX11_slips 18 = .ok (.iload_n 3, 1) := by decide +kernel
theorem dX11_slips_19 : decode cX11_slips 19 = .ok (.iconst 0, 1) := by decide +kernel
theorem dX11_slips_20 : decode cX11_slips 20 = .ok (.iconst 3, 1) := by decide +kernel
theorem dX11_slips_21 : decode cX11_slips 21 = .ok (.invokestatic 115, 3) := by decide +kernel
theorem dX11_slips_24 : decode cX11_slips 24 = .ok (.ifCond .ne 5, 3) := by decide +kernel
theorem dX11_slips_27 : decode cX11_slips 27 = .ok (.iconst (-1), 1) := by decide +kernel
theorem dX11_slips_28 : decode cX11_slips 28 = .ok (.ireturn, 1) := by decide +kernel
theorem dX11_slips_29 : decode cX11_slips 29 = .ok (.iload_n 3, 1) := by decide +kernel
theorem dX11_slips_30 : decode cX11_slips 30 = .ok (.iconst 1, 1) := by decide +kernel
theorem dX11_slips_31 : decode cX11_slips 31 = .ok (.iand, 1) := by decide +kernel
theorem dX11_slips_32 : decode cX11_slips 32 = .ok (.ifCond .ne 7, 3) := by decide +kernel
theorem dX11_slips_35 : decode cX11_slips 35 = .ok (.iconst 0, 1) := by decide +kernel
theorem dX11_slips_36 : decode cX11_slips 36 = .ok (.goto 4, 3) := by decide +kernel
theorem dX11_slips_39 : decode cX11_slips 39 = .ok (.iconst 2, 1) := by decide +kernel
theorem dX11_slips_40 : decode cX11_slips 40 = .ok (.istore 4, 2) := by decide +kernel
theorem dX11_slips_42 : decode cX11_slips 42 = .ok (.aload_n 0, 1) := by decide +kernel
theorem dX11_slips_43 : decode cX11_slips 43 = .ok (.aload_n 0, 1) := by decide +kernel
theorem dX11_slips_44 : decode cX11_slips 44 = .ok (.getfield 25, 3) := by decide +kernel
theorem dX11_slips_47 : decode cX11_slips 47 = .ok (.iload_n 1, 1) := by decide +kernel
theorem dX11_slips_48 : decode cX11_slips 48 = .ok (.aaload, 1) := by decide +kernel
theorem dX11_slips_49 : decode cX11_slips 49 = .ok (.iload_n 2, 1) := by decide +kernel
theorem dX11_slips_50 : decode cX11_slips 50 = .ok (.iload 4, 2) := by decide +kernel
theorem dX11_slips_52 : decode cX11_slips 52 = .ok (.iload_n 3, 1) := by decide +kernel
theorem dX11_slips_53 : decode cX11_slips 53 = .ok (.iconst 2, 1) := by decide +kernel
theorem dX11_slips_54 : decode cX11_slips 54 = .ok (.if_icmp .lt 7, 3) := by decide +kernel
theorem dX11_slips_57 : decode cX11_slips 57 = .ok (.iconst 1, 1) := by decide +kernel
theorem dX11_slips_58 : decode cX11_slips 58 = .ok (.goto 4, 3) := by decide +kernel
theorem dX11_slips_61 : decode cX11_slips 61 = .ok (.iconst 0, 1) := by decide +kernel
theorem dX11_slips_62 : decode cX11_slips 62 = .ok (.invokevirtual 244, 3) := by decide +kernel
theorem dX11_slips_65 : decode cX11_slips 65 = .ok (.ireturn, 1) := by decide +kernel
theorem dX11_sum_0 : decode cX11_sum 0 = .ok (.iload_n 1, 1) := by decide +kernel
theorem dX11_sum_1 : decode cX11_sum 1 = .ok (.iconst 0, 1) := by decide +kernel
theorem dX11_sum_2 : decode cX11_sum 2 = .ok (.bipush 7, 2) := by decide +kernel
theorem dX11_sum_4 : decode cX11_sum 4 = .ok (.invokestatic 115, 3) := by decide +kernel
theorem dX11_sum_7 : decode cX11_sum 7 = .ok (.ifCond .eq 22, 3) := by decide +kernel
theorem dX11_sum_10 : decode cX11_sum 10 = .ok (.iload_n 2, 1) := by decide +kernel
theorem dX11_sum_11 : decode cX11_sum 11 = .ok (.invokestatic 134, 3) := by decide +kernel
theorem dX11_sum_14 : decode cX11_sum 14 = .ok (.ifCond .eq 15, 3) := by decide +kernel
theorem dX11_sum_17 : decode cX11_sum 17 = .ok (.aload_n 0, 1) := by decide +kernel
theorem dX11_sum_18 : decode cX11_sum 18 = .ok (.getfield 10, 3) := by decide +kernel
theorem dX11_sum_21 : decode cX11_sum 21 = .ok (.getfield 131, 3) := by decide +kernel
theorem dX11_sum_24 : decode cX11_sum 24 = .ok (.bipush 6, 2) := by decide +kernel
theorem dX11_sum_26 : decode cX11_sum 26 = .ok (.if_icmp .ge 5, 3) := by decide +kernel
theorem dX11_sum_29 : decode cX11_sum 29 = .ok (.iconst (-1), 1) := by decide +kernel
theorem dX11_sum_30 : decode cX11_sum 30 = .ok (.ireturn, 1) := by decide +kernel
theorem dX11_sum_31 : decode cX11_sum 31 = .ok (.iload_n 3, 1) := by decide +kernel
theorem dX11_sum_32 : decode cX11_sum 32 = .ok (.iconst 0, 1) := by decide +kernel
theorem dX11_sum_33 : decode cX11_sum 33 = .ok (.sipush 9999, 3) := by decide +kernel
theorem dX11_sum_36 : decode cX11_sum 36 = .ok (.invokestatic 115, 3) := by decide +kernel
theorem dX11_sum_39 : decode cX11_sum 39 = .ok (.ifCond .eq 14, 3) := by decide +kernel
theorem dX11_sum_42 : decode cX11_sum 42 = .ok (.iload 4, 2) := by decide +kernel
theorem dX11_sum_44 : decode cX11_sum 44 = .ok (.iconst 0, 1) := by decide +kernel
theorem dX11_sum_45 : decode cX11_sum 45 = .ok (.bipush 99, 2) := by decide +kernel
theorem dX11_sum_47 : decode cX11_sum 47 = .ok (.invokestatic 115, 3) := by decide +kernel
theorem dX11_sum_50 : decode cX11_sum 50 = .ok (.ifCond .ne 5, 3) := by decide +kernel
theorem dX11_sum_53 : decode cX11_sum 53 = .ok (.iconst (-1), 1) := by decide +kernel
theorem dX11_sum_54 : decode cX11_sum 54 = .ok (.ireturn, 1) := by decide +kernel
theorem dX11_sum_55 : decode cX11_sum 55 = .ok (.aload_n 0, 1) := by decide +kernel
theorem dX11_sum_56 : decode cX11_sum 56 = .ok (.getfield 10, 3) := by decide +kernel
theorem dX11_sum_59 : decode cX11_sum 59 = .ok (.aload_n 0, 1) := by decide +kernel
theorem dX11_sum_60 : decode cX11_sum 60 = .ok (.getfield 93, 3) := by decide +kernel
theorem dX11_sum_63 : decode cX11_sum 63 = .ok (.getfield 248, 3) := by decide +kernel
theorem dX11_sum_66 : decode cX11_sum 66 = .ok (.invokevirtual 231, 3) := by decide +kernel
theorem dX11_sum_69 : decode cX11_sum 69 = .ok (.aload_n 0, 1) := by decide +kernel
theorem dX11_sum_70 : decode cX11_sum 70 = .ok (.getfield 10, 3) := by decide +kernel
theorem dX11_sum_73 : decode cX11_sum 73 = .ok (.invokevirtual 145, 3) := by decide +kernel
theorem dX11_sum_76 : decode cX11_sum 76 = .ok (.aload_n 0, 1) := by decide +kernel
theorem dX11_sum_77 : decode cX11_sum 77 = .ok (.getfield 93, 3) := by decide +kernel
theorem dX11_sum_80 : decode cX11_sum 80 = .ok (.invokevirtual 251, 3) := by decide +kernel
theorem dX11_sum_83 : decode cX11_sum 83 = .ok (.ifCond .ne 6, 3) := by decide +kernel
theorem dX11_sum_86 : decode cX11_sum 86 = .ok (.bipush (-2), 2) := by decide +kernel
theorem dX11_sum_88 : decode cX11_sum 88 = .ok (.ireturn, 1) := by decide +kernel
theorem dX11_sum_89 : decode cX11_sum 89 = .ok (.aload_n 0, 1) := by decide +kernel
theorem dX11_sum_90 : decode cX11_sum 90 = .ok (.getfield 93, 3) := by decide +kernel
theorem dX11_sum_93 : decode cX11_sum 93 = .ok (.iload_n 1, 1) := by decide +kernel
theorem dX11_sum_94 : decode cX11_sum 94 = .ok (.iload_n 2, 1) := by decide +kernel
theorem dX11_sum_95 : decode cX11_sum 95 = .ok (.iload_n 3, 1) := by decide +kernel
theorem dX11_sum_96 : decode cX11_sum 96 = .ok (.iload 4, 2) := by decide +kernel
theorem dX11_sum_98 : decode cX11_sum 98 = .ok (.invokevirtual 254, 3) := by decide +kernel
theorem dX11_sum_101 : decode cX11_sum 101 = .ok (.aload_n 0, 1) := by decide +kernel
theorem dX11_sum_102 : decode cX11_sum 102 = .ok (.getfield 93, 3) := by decide +kernel
theorem dX11_sum_105 : decode cX11_sum 105 = .ok (.iload_n 1, 1) := by decide +kernel
theorem dX11_sum_106 : decode cX11_sum 106 = .ok (.aload_n 0, 1) := by decide +kernel
theorem dX11_sum_107 : decode cX11_sum 107 = .ok (.getfield 25, 3) := by decide +kernel
theorem dX11_sum_110 : decode cX11_sum 110 = .ok (.iload_n 2, 1) := by decide +kernel
theorem dX11_sum_111 : decode cX11_sum 111 = .ok (.aaload, 1) := by decide +kernel
theorem dX11_sum_112 : decode cX11_sum 112 = .ok (.invokevirtual 257, 3) := by decide +kernel
theorem dX11_sum_115 : decode cX11_sum 115 = .ok (.ireturn, 1) := by decide +kernel
theorem dX11_order_0 : decode cX11_order 0 = .ok (.iload_n 1, 1) := by decide +kernel
theorem dX11_order_1 : decode cX11_order 1 = .ok (.iconst 1, 1) := by decide +kernel
theorem dX11_order_2 : decode cX11_order 2 = .ok (.sipush 255, 3) := by decide +kernel
theorem dX11_order_5 : decode cX11_order 5 = .ok (.invokestatic 115, 3) := by decide +kernel
theorem dX11_order_8 : decode cX11_order 8 = .ok (.ifCond .eq 17, 3) := by decide +kernel
theorem dX11_order_11 : decode cX11_order 11 = .ok (.iload_n 2, 1) := by decide +kernel
theorem dX11_order_12 : decode cX11_order 12 = .ok (.iconst (-1), 1) := by decide +kernel
theorem dX11_order_13 : decode cX11_order 13 = .ok (.iload_n 1, 1) := by decide +kernel
theorem dX11_order_14 : decode cX11_order 14 = .ok (.invokestatic 261, 3) := by decide +kernel
theorem dX11_order_17 : decode cX11_order 17 = .ok (.iconst 1, 1) := by decide +kernel
theorem dX11_order_18 : decode cX11_order 18 = .ok (.isub, 1) := by decide +kernel
theorem dX11_order_19 : decode cX11_order 19 = .ok (.invokestatic 115, 3) := by decide +kernel
theorem dX11_order_22 : decode cX11_order 22 = .ok (.ifCond .ne 5, 3) := by decide +kernel
theorem dX11_order_25 : decode cX11_order 25 = .ok (.iconst (-1), 1) := by decide +kernel
theorem dX11_order_26 : decode cX11_order 26 = .ok (.ireturn, 1) := by decide +kernel
theorem dX11_order_27 : decode cX11_order 27 = .ok (.iload_n 1, 1) := by decide +kernel
theorem dX11_order_28 : decode cX11_order 28 = .ok (.aload_n 0, 1) := by decide +kernel
theorem dX11_order_29 : decode cX11_order 29 = .ok (.getfield 93, 3) := by decide +kernel
theorem dX11_order_32 : decode cX11_order 32 = .ok (.getfield 267, 3) := by decide +kernel
theorem dX11_order_35 : decode cX11_order 35 = .ok (.iconst (-1), 1) := by decide +kernel
theorem dX11_order_36 : decode cX11_order 36 = .ok (.ixor, 1) := by decide +kernel
theorem dX11_order_37 : decode cX11_order 37 = .ok (.iand, 1) := by decide +kernel
theorem dX11_order_38 : decode cX11_order 38 = .ok (.ifCond .eq 6, 3) := by decide +kernel
theorem dX11_order_41 : decode cX11_order 41 = .ok (.bipush (-2), 2) := by decide +kernel
theorem dX11_order_43 : decode cX11_order 43 = .ok (.ireturn, 1) := by decide +kernel
theorem dX11_order_44 : decode cX11_order 44 = .ok (.iconst 0, 1) := by decide +kernel
theorem dX11_order_45 : decode cX11_order 45 = .ok (.istore_n 3, 1) := by decide +kernel
theorem dX11_order_46 : decode cX11_order 46 = .ok (.iload_n 3, 1) := by decide +kernel
theorem dX11_order_47 : decode cX11_order 47 = .ok (.bipush 8, 2) := by decide +kernel
theorem dX11_order_49 : decode cX11_order 49 = .ok (.if_icmp .ge 40, 3) := by decide +kernel
theorem dX11_order_52 : decode cX11_order 52 = .ok (.iload_n 1, 1) := by decide +kernel
theorem dX11_order_53 : decode cX11_order 53 = .ok (.iload_n 3, 1) := by decide +kernel
theorem dX11_order_54 : decode cX11_order 54 = .ok (.ishr, 1) := by decide +kernel
theorem dX11_order_55 : decode cX11_order 55 = .ok (.iconst 1, 1) := by decide +kernel
theorem dX11_order_56 : decode cX11_order 56 = .ok (.iand, 1) := by decide +kernel
theorem dX11_order_57 : decode cX11_order 57 = .ok (.ifCond .eq 26, 3) := by decide +kernel
theorem dX11_order_60 : decode cX11_order 60 = .ok (.aload_n 0, 1) := by decide +kernel
theorem dX11_order_61 : decode cX11_order 61 = .ok (.getfield 93, 3) := by decide +kernel
theorem dX11_order_64 : decode cX11_order 64 = .ok (.iload_n 3, 1) := by decide +kernel
theorem dX11_order_65 : decode cX11_order 65 = .ok (.aload_n 0, 1) := by decide +kernel
theorem dX11_order_66 : decode cX11_order 66 = .ok (.getfield 25, 3) := by decide +kernel
theorem dX11_order_69 : decode cX11_order 69 = .ok (.aload_n 0, 1) := by decide +kernel
theorem dX11_order_70 : decode cX11_order 70 = .ok (.getfield 93, 3) := by decide +kernel
theorem dX11_order_73 : decode cX11_order 73 = .ok (.getfield 270, 3) := by decide +kernel
theorem dX11_order_76 : decode cX11_order 76 = .ok (.iload_n 3, 1) := by decide +kernel
theorem dX11_order_77 : decode cX11_order 77 = .ok (.iaload, 1) := by decide +kernel
theorem dX11_order_78 : decode cX11_order 78 = .ok (.aaload, 1) := by decide +kernel
theorem dX11_order_79 : decode cX11_order 79 = .ok (.invokevirtual 257, 3) := by decide +kernel
theorem dX11_order_82 : decode cX11_order 82 = .ok (.pop, 1) := by decide +kernel
theorem dX11_order_83 : decode cX11_order 83 = .ok (.iinc 3 1, 3) := by decide +kernel
theorem dX11_order_86 : decode cX11_order 86 = .ok (.goto (-40), 3) := by decide +kernel
theorem dX11_order_89 : decode cX11_order 89 = .ok (.aload_n 0, 1) := by decide +kernel
theorem dX11_order_90 : decode cX11_order 90 = .ok (.getfield 93, 3) := by decide +kernel
theorem dX11_order_93 : decode cX11_order 93 = .ok (.iload_n 1, 1) := by decide +kernel
theorem dX11_order_94 : decode cX11_order 94 = .ok (.invokevirtual 273, 3) := by decide +kernel
theorem dX11_order_97 : decode cX11_order 97 = .ok (.iload_n 2, 1) := by decide +kernel
theorem dX11_order_98 : decode cX11_order 98 = .ok (.iconst (-1), 1) := by decide +kernel
theorem dX11_order_99 : decode cX11_order 99 = .ok (.if_icmp .ne 15, 3) := by decide +kernel
theorem dX11_order_102 : decode cX11_order 102 = .ok (.aload_n 0, 1) := by decide +kernel
theorem dX11_order_103 : decode cX11_order 103 = .ok (.getfield 93, 3) := by decide +kernel
theorem dX11_order_106 : decode cX11_order 106 = .ok (.getfield 276, 3) := by decide +kernel
theorem dX11_order_109 : decode cX11_order 109 = .ok (.iconst 0, 1) := by decide +kernel
theorem dX11_order_110 : decode cX11_order 110 = .ok (.iaload, 1) := by decide +kernel
theorem dX11_order_111 : decode cX11_order 111 = .ok (.goto 12, 3) := by decide +kernel
theorem dX11_order_114 : decode cX11_order 114 = .ok (.aload_n 0, 1) := by decide +kernel
theorem dX11_order_115 : decode cX11_order 115 = .ok (.getfield 93, 3) := by decide +kernel
theorem dX11_order_118 : decode cX11_order 118 = .ok (.iload_n 1, 1) := by decide +kernel
theorem dX11_order_119 : decode cX11_order 119 = .ok (.iload_n 2, 1) := by decide +kernel
theorem dX11_order_120 : decode cX11_order 120 = .ok (.invokevirtual 279, 3) := by decide +kernel
theorem dX11_order_123 : decode cX11_order 123 = .ok (.ireturn, 1) := by decide +kernel
theorem dX11_seed_0 : decode cX11_seed 0 = .ok (.iload_n 1, 1) := by decide +kernel
theorem dX11_seed_1 : decode cX11_seed 1 = .ok (.iconst 0, 1) := by decide +kernel
theorem dX11_seed_2 : decode cX11_seed 2 = .ok (.ldc_w 283, 3) := by decide +kernel
theorem dX11_seed_5 : decode cX11_seed 5 = .ok (.invokestatic 115, 3) := by decide +kernel
theorem dX11_seed_8 : decode cX11_seed 8 = .ok (.ifCond .ne 5, 3) := by decide +kernel
theorem dX11_seed_11 : decode cX11_seed 11 = .ok (.iconst 0, 1) := by decide +kernel
theorem dX11_seed_12 : decode cX11_seed 12 = .ok (.ireturn, 1) := by decide +kernel
theorem dX11_seed_13 : decode cX11_seed 13 = .ok (.aload_n 0, 1) := by decide +kernel
theorem dX11_seed_14 : decode cX11_seed 14 = .ok (.getfield 100, 3) := by decide +kernel
theorem dX11_seed_17 : decode cX11_seed 17 = .ok (.iload_n 1, 1) := by decide +kernel
theorem dX11_seed_18 : decode cX11_seed 18 = .ok (.putfield 104, 3) := by decide +kernel
theorem dX11_seed_21 : decode cX11_seed 21 = .ok (.iconst 1, 1) := by decide +kernel
theorem dX11_seed_22 : decode cX11_seed 22 = .ok (.ireturn, 1) := by decide +kernel
theorem dX11_night_0 : decode cX11_night 0 = .ok (.iload_n 1, 1) := by decide +kernel
theorem dX11_night_1 : decode cX11_night 1 = .ok (.iconst 1, 1) := by decide +kernel
theorem dX11_night_2 : decode cX11_night 2 = .ok (.bipush 40, 2) := by decide +kernel
theorem dX11_night_4 : decode cX11_night 4 = .ok (.invokestatic 115, 3) := by decide +kernel
theorem dX11_night_7 : decode cX11_night 7 = .ok (.ifCond .ne 5, 3) := by decide +kernel
theorem dX11_night_10 : decode cX11_night 10 = .ok (.iconst (-1), 1) := by decide +kernel
theorem dX11_night_11 : decode cX11_night 11 = .ok (.ireturn, 1) := by decide +kernel
theorem dX11_night_12 : decode cX11_night 12 = .ok (.iconst 0, 1) := by decide +kernel
theorem dX11_night_13 : decode cX11_night 13 = .ok (.istore_n 2, 1) := by decide +kernel
theorem dX11_night_14 : decode cX11_night 14 = .ok (.iconst 0, 1) := by decide +kernel
theorem dX11_night_15 : decode cX11_night 15 = .ok (.istore_n 3, 1) := by decide +kernel
theorem dX11_night_16 : decode cX11_night 16 = .ok (.iload_n 3, 1) := by decide +kernel
theorem dX11_night_17 : decode cX11_night 17 = .ok (.iload_n 1, 1) := by decide +kernel
theorem dX11_night_18 : decode cX11_night 18 = .ok (.if_icmp .ge 72, 3) := by decide +kernel
theorem dX11_night_21 : decode cX11_night 21 = .ok (.aload_n 0, 1) := by decide +kernel
theorem dX11_night_22 : decode cX11_night 22 = .ok (.getfield 100, 3) := by decide +kernel
theorem dX11_night_25 : decode cX11_night 25 = .ok (.sipush 25173, 3) := by decide +kernel
theorem dX11_night_28 : decode cX11_night 28 = .ok (.aload_n 0, 1) := by decide +kernel
theorem dX11_night_29 : decode cX11_night 29 = .ok (.getfield 100, 3) := by decide +kernel
theorem dX11_night_32 : decode cX11_night 32 = .ok (.getfield 104, 3) := by decide +kernel
theorem dX11_night_35 : decode cX11_night 35 = .ok (.imul, 1) := by decide +kernel
theorem dX11_night_36 : decode cX11_night 36 = .ok (.sipush 13849, 3) := by decide +kernel
theorem dX11_night_39 : decode cX11_night 39 = .ok (.iadd, 1) := by decide +kernel
theorem dX11_night_40 : decode cX11_night 40 = .ok (.ldc_w 284, 3) := by decide +kernel
theorem dX11_night_43 : decode cX11_night 43 = .ok (.irem, 1) := by decide +kernel
theorem dX11_night_44 : decode cX11_night 44 = .ok (.putfield 104, 3) := by decide +kernel
theorem dX11_night_47 : decode cX11_night 47 = .ok (.iload_n 2, 1) := by decide +kernel
theorem dX11_night_48 : decode cX11_night 48 = .ok (.aload_n 0, 1) := by decide +kernel
theorem dX11_night_49 : decode cX11_night 49 = .ok (.aload_n 0, 1) := by decide +kernel
theorem dX11_night_50 : decode cX11_night 50 = .ok (.getfield 100, 3) := by decide +kernel
theorem dX11_night_53 : decode cX11_night 53 = .ok (.getfield 104, 3) := by decide +kernel
theorem dX11_night_56 : decode cX11_night 56 = .ok (.bipush 6, 2) := by decide +kernel
theorem dX11_night_58 : decode cX11_night 58 = .ok (.irem, 1) := by decide +kernel
theorem dX11_night_59 : decode cX11_night 59 = .ok (.aload_n 0, 1) := by decide +kernel
theorem dX11_night_60 : decode cX11_night 60 = .ok (.getfield 100, 3) := by decide +kernel
theorem dX11_night_63 : decode cX11_night 63 = .ok (.getfield 104, 3) := by decide +kernel
theorem dX11_night_66 : decode cX11_night 66 = .ok (.bipush 6, 2) := by decide +kernel
theorem dX11_night_68 : decode cX11_night 68 = .ok (.idiv, 1) := by decide +kernel
theorem dX11_night_69 : decode cX11_night 69 = .ok (.iconst 2, 1) := by decide +kernel
theorem dX11_night_70 : decode cX11_night 70 = .ok (.irem, 1) := by decide +kernel
theorem dX11_night_71 : decode cX11_night 71 = .ok (.ifCond .ne 7, 3) := by decide +kernel
theorem dX11_night_74 : decode cX11_night 74 = .ok (.iconst 1, 1) := by decide +kernel
theorem dX11_night_75 : decode cX11_night 75 = .ok (.goto 4, 3) := by decide +kernel
theorem dX11_night_78 : decode cX11_night 78 = .ok (.iconst 0, 1) := by decide +kernel
theorem dX11_night_79 : decode cX11_night 79 = .ok (.invokevirtual 285, 3) := by decide +kernel
theorem dX11_night_82 : decode cX11_night 82 = .ok (.iadd, 1) := by decide +kernel
theorem dX11_night_83 : decode cX11_night 83 = .ok (.istore_n 2, 1) := by decide +kernel
theorem dX11_night_84 : decode cX11_night 84 = .ok (.iinc 3 1, 3) := by decide +kernel
theorem dX11_night_87 : decode cX11_night 87 = .ok (.goto (-71), 3) := by decide +kernel
theorem dX11_night_90 : decode cX11_night 90 = .ok (.aload_n 0, 1) := by decide +kernel
theorem dX11_night_91 : decode cX11_night 91 = .ok (.getfield 100, 3) := by decide +kernel
theorem dX11_night_94 : decode cX11_night 94 = .ok (.dup, 1) := by decide +kernel
theorem dX11_night_95 : decode cX11_night 95 = .ok (.getfield 196, 3) := by decide +kernel
theorem dX11_night_98 : decode cX11_night 98 = .ok (.iload_n 2, 1) := by decide +kernel
theorem dX11_night_99 : decode cX11_night 99 = .ok (.iadd, 1) := by decide +kernel
theorem dX11_night_100 : decode cX11_night 100 = .ok (.putfield 196, 3) := by decide +kernel
theorem dX11_night_103 : decode cX11_night 103 = .ok (.iload_n 2, 1) := by decide +kernel
theorem dX11_night_104 : decode cX11_night 104 = .ok (.ireturn, 1) := by decide +kernel
theorem dX11_keep_0 : decode cX11_keep 0 = .ok (.aload_n 0, 1) := by decide +kernel
theorem dX11_keep_1 : decode cX11_keep 1 = .ok (.getfield 19, 3) := by decide +kernel
theorem dX11_keep_4 : decode cX11_keep 4 = .ok (.getfield 157, 3) := by decide +kernel
theorem dX11_keep_7 : decode cX11_keep 7 = .ok (.aload_n 0, 1) := by decide +kernel
theorem dX11_keep_8 : decode cX11_keep 8 = .ok (.getfield 100, 3) := by decide +kernel
theorem dX11_keep_11 : decode cX11_keep 11 = .ok (.getfield 289, 3) := by decide +kernel
theorem dX11_keep_14 : decode cX11_keep 14 = .ok (.invokestatic 192, 3) := by decide +kernel
theorem dX11_keep_17 : decode cX11_keep 17 = .ok (.aload_n 0, 1) := by decide +kernel
theorem dX11_keep_18 : decode cX11_keep 18 = .ok (.getfield 108, 3) := by decide +kernel
theorem dX11_keep_21 : decode cX11_keep 21 = .ok (.aload_n 0, 1) := by decide +kernel
theorem dX11_keep_22 : decode cX11_keep 22 = .ok (.getfield 100, 3) := by decide +kernel
theorem dX11_keep_25 : decode cX11_keep 25 = .ok (.invokevirtual 290, 3) := by decide +kernel
theorem dX11_keep_28 : decode cX11_keep 28 = .ok (.aload_n 0, 1) := by decide +kernel
theorem dX11_keep_29 : decode cX11_keep 29 = .ok (.iconst 1, 1) := by decide +kernel
theorem dX11_keep_30 : decode cX11_keep 30 = .ok (.putfield 111, 3) := by decide +kernel
theorem dX11_keep_33 : decode cX11_keep 33 = .ok (.aload_n 0, 1) := by decide +kernel
theorem dX11_keep_34 : decode cX11_keep 34 = .ok (.getfield 19, 3) := by decide +kernel
theorem dX11_keep_37 : decode cX11_keep 37 = .ok (.invokevirtual 294, 3) := by decide +kernel
theorem dX11_keep_40 : decode cX11_keep 40 = .ok (.ireturn, 1) := by decide +kernel
theorem dX11_undo_0 : decode cX11_undo 0 = .ok (.aload_n 0, 1) := by decide +kernel
theorem dX11_undo_1 : decode cX11_undo 1 = .ok (.getfield 111, 3) := by decide +kernel
theorem dX11_undo_4 : decode cX11_undo 4 = .ok (.ifCond .eq 20, 3) := by decide +kernel
theorem dX11_undo_7 : decode cX11_undo 7 = .ok (.aload_n 0, 1) := by decide +kernel
theorem dX11_undo_8 : decode cX11_undo 8 = .ok (.getfield 19, 3) := by decide +kernel
theorem dX11_undo_11 : decode cX11_undo 11 = .ok (.aload_n 0, 1) := by decide +kernel
theorem dX11_undo_12 : decode cX11_undo 12 = .ok (.getfield 108, 3) := by decide +kernel
theorem dX11_undo_15 : decode cX11_undo 15 = .ok (.getfield 289, 3) := by decide +kernel
theorem dX11_undo_18 : decode cX11_undo 18 = .ok (.invokevirtual 297, 3) := by decide +kernel
theorem dX11_undo_21 : decode cX11_undo 21 = .ok (.ifCond .ne 5, 3) := by decide +kernel
theorem dX11_undo_24 : decode cX11_undo 24 = .ok (.iconst 0, 1) := by decide +kernel
theorem dX11_undo_25 : decode cX11_undo 25 = .ok (.ireturn, 1) := by decide +kernel
theorem dX11_undo_26 : decode cX11_undo 26 = .ok (.aload_n 0, 1) := by decide +kernel
theorem dX11_undo_27 : decode cX11_undo 27 = .ok (.getfield 100, 3) := by decide +kernel
theorem dX11_undo_30 : decode cX11_undo 30 = .ok (.aload_n 0, 1) := by decide +kernel
theorem dX11_undo_31 : decode cX11_undo 31 = .ok (.getfield 108, 3) := by decide +kernel
theorem dX11_undo_34 : decode cX11_undo 34 = .ok (.invokevirtual 290, 3) := by decide +kernel
theorem dX11_undo_37 : decode cX11_undo 37 = .ok (.aload_n 0, 1) := by decide +kernel
theorem dX11_undo_38 : decode cX11_undo 38 = .ok (.getfield 108, 3) := by decide +kernel
theorem dX11_undo_41 : decode cX11_undo 41 = .ok (.getfield 289, 3) := by decide +kernel
theorem dX11_undo_44 : decode cX11_undo 44 = .ok (.aload_n 0, 1) := by decide +kernel
theorem dX11_undo_45 : decode cX11_undo 45 = .ok (.getfield 19, 3) := by decide +kernel
theorem dX11_undo_48 : decode cX11_undo 48 = .ok (.getfield 157, 3) := by decide +kernel
theorem dX11_undo_51 : decode cX11_undo 51 = .ok (.invokestatic 192, 3) := by decide +kernel
theorem dX11_undo_54 : decode cX11_undo 54 = .ok (.iconst 1, 1) := by decide +kernel
theorem dX11_undo_55 : decode cX11_undo 55 = .ok (.ireturn, 1) := by decide +kernel
theorem dX11_check_0 : decode cX11_check 0 = .ok (.iload_n 1, 1) := by decide +kernel
theorem dX11_check_1 : decode cX11_check 1 = .ok (.iconst 0, 1) := by decide +kernel
theorem dX11_check_2 : decode cX11_check 2 = .ok (.bipush 6, 2) := by decide +kernel
theorem dX11_check_4 : decode cX11_check 4 = .ok (.invokestatic 115, 3) := by decide +kernel
theorem dX11_check_7 : decode cX11_check 7 = .ok (.ifCond .eq 16, 3) := by decide +kernel
theorem dX11_check_10 : decode cX11_check 10 = .ok (.aload_n 0, 1) := by decide +kernel
theorem dX11_check_11 : decode cX11_check 11 = .ok (.getfield 10, 3) := by decide +kernel
theorem dX11_check_14 : decode cX11_check 14 = .ok (.getfield 131, 3) := by decide +kernel
theorem dX11_check_17 : decode cX11_check 17 = .ok (.iconst 4, 1) := by decide +kernel
theorem dX11_check_18 : decode cX11_check 18 = .ok (.iload_n 1, 1) := by decide +kernel
theorem dX11_check_19 : decode cX11_check 19 = .ok (.imul, 1) := by decide +kernel
theorem dX11_check_20 : decode cX11_check 20 = .ok (.if_icmp .ge 6, 3) := by decide +kernel
theorem dX11_check_23 : decode cX11_check 23 = .ok (.bipush (-2), 2) := by decide +kernel
theorem dX11_check_25 : decode cX11_check 25 = .ok (.ireturn, 1) := by decide +kernel
theorem dX11_check_26 : decode cX11_check 26 = .ok (.aload_n 0, 1) := by decide +kernel
theorem dX11_check_27 : decode cX11_check 27 = .ok (.iload_n 1, 1) := by decide +kernel
theorem dX11_check_28 : decode cX11_check 28 = .ok (.invokevirtual 301, 3) := by decide +kernel
theorem dX11_check_31 : decode cX11_check 31 = .ok (.istore_n 2, 1) := by decide +kernel
theorem dX11_check_32 : decode cX11_check 32 = .ok (.aload_n 0, 1) := by decide +kernel
theorem dX11_check_33 : decode cX11_check 33 = .ok (.getfield 10, 3) := by decide +kernel
theorem dX11_check_36 : decode cX11_check 36 = .ok (.invokevirtual 145, 3) := by decide +kernel
theorem dX11_check_39 : decode cX11_check 39 = .ok (.iload_n 2, 1) := by decide +kernel
theorem dX11_check_40 : decode cX11_check 40 = .ok (.ireturn, 1) := by decide +kernel
theorem dX11_count_0 : decode cX11_count 0 = .ok (.iload_n 1, 1) := by decide +kernel
theorem dX11_count_1 : decode cX11_count 1 = .ok (.bipush 10, 2) := by decide +kernel
theorem dX11_count_3 : decode cX11_count 3 = .ok (.bipush 15, 2) := by decide +kernel
theorem dX11_count_5 : decode cX11_count 5 = .ok (.invokestatic 115, 3) := by decide +kernel
theorem dX11_count_8 : decode cX11_count 8 = .ok (.ifCond .eq 16, 3) := by decide +kernel
theorem dX11_count_11 : decode cX11_count 11 = .ok (.aload_n 0, 1) := by decide +kernel
theorem dX11_count_12 : decode cX11_count 12 = .ok (.getfield 19, 3) := by decide +kernel
theorem dX11_count_15 : decode cX11_count 15 = .ok (.getfield 157, 3) := by decide +kernel
theorem dX11_count_18 : decode cX11_count 18 = .ok (.iload_n 1, 1) := by decide +kernel
theorem dX11_count_19 : decode cX11_count 19 = .ok (.bipush 10, 2) := by decide +kernel
theorem dX11_count_21 : decode cX11_count 21 = .ok (.isub, 1) := by decide +kernel
theorem dX11_count_22 : decode cX11_count 22 = .ok (.iaload, 1) := by decide +kernel
theorem dX11_count_23 : decode cX11_count 23 = .ok (.ireturn, 1) := by decide +kernel
theorem dX11_count_24 : decode cX11_count 24 = .ok (.iload_n 1, 1) := by decide +kernel
theorem dX11_count_25 : decode cX11_count 25 = .ok (.bipush 20, 2) := by decide +kernel
theorem dX11_count_27 : decode cX11_count 27 = .ok (.bipush 25, 2) := by decide +kernel
theorem dX11_count_29 : decode cX11_count 29 = .ok (.invokestatic 115, 3) := by decide +kernel
theorem dX11_count_32 : decode cX11_count 32 = .ok (.ifCond .eq 16, 3) := by decide +kernel
theorem dX11_count_35 : decode cX11_count 35 = .ok (.aload_n 0, 1) := by decide +kernel
theorem dX11_count_36 : decode cX11_count 36 = .ok (.getfield 19, 3) := by decide +kernel
theorem dX11_count_39 : decode cX11_count 39 = .ok (.getfield 304, 3) := by decide +kernel
theorem dX11_count_42 : decode cX11_count 42 = .ok (.iload_n 1, 1) := by decide +kernel
theorem dX11_count_43 : decode cX11_count 43 = .ok (.bipush 20, 2) := by decide +kernel
theorem dX11_count_45 : decode cX11_count 45 = .ok (.isub, 1) := by decide +kernel
theorem dX11_count_46 : decode cX11_count 46 = .ok (.iaload, 1) := by decide +kernel
theorem dX11_count_47 : decode cX11_count 47 = .ok (.ireturn, 1) := by decide +kernel
theorem dX11_count_48 : decode cX11_count 48 = .ok (.iload_n 1, 1) := by decide +kernel
theorem dX11_count_49 : decode cX11_count 49 = .ok (.bipush 30, 2) := by decide +kernel
theorem dX11_count_51 : decode cX11_count 51 = .ok (.bipush 35, 2) := by decide +kernel
theorem dX11_count_53 : decode cX11_count 53 = .ok (.invokestatic 115, 3) := by decide +kernel
theorem dX11_count_56 : decode cX11_count 56 = .ok (.ifCond .eq 16, 3) := by decide +kernel
theorem dX11_count_59 : decode cX11_count 59 = .ok (.aload_n 0, 1) := by decide +kernel
theorem dX11_count_60 : decode cX11_count 60 = .ok (.getfield 19, 3) := by decide +kernel
theorem dX11_count_63 : decode cX11_count 63 = .ok (.getfield 307, 3) := by decide +kernel
theorem dX11_count_66 : decode cX11_count 66 = .ok (.iload_n 1, 1) := by decide +kernel
theorem dX11_count_67 : decode cX11_count 67 = .ok (.bipush 30, 2) := by decide +kernel
theorem dX11_count_69 : decode cX11_count 69 = .ok (.isub, 1) := by decide +kernel
theorem dX11_count_70 : decode cX11_count 70 = .ok (.iaload, 1) := by decide +kernel
theorem dX11_count_71 : decode cX11_count 71 = .ok (.ireturn, 1) := by decide +kernel
theorem dX11_count_72 : decode cX11_count 72 = .ok (.iload_n 1, 1) := by decide +kernel
theorem dX11_count_73 : decode cX11_count 73 = .ok (.bipush 40, 2) := by decide +kernel
theorem dX11_count_75 : decode cX11_count 75 = .ok (.bipush 42, 2) := by decide +kernel
theorem dX11_count_77 : decode cX11_count 77 = .ok (.invokestatic 115, 3) := by decide +kernel
theorem dX11_count_80 : decode cX11_count 80 = .ok (.ifCond .eq 16, 3) := by decide +kernel
theorem dX11_count_83 : decode cX11_count 83 = .ok (.aload_n 0, 1) := by decide +kernel
theorem dX11_count_84 : decode cX11_count 84 = .ok (.getfield 25, 3) := by decide +kernel
theorem dX11_count_87 : decode cX11_count 87 = .ok (.iload_n 1, 1) := by decide +kernel
theorem dX11_count_88 : decode cX11_count 88 = .ok (.bipush 40, 2) := by decide +kernel
theorem dX11_count_90 : decode cX11_count 90 = .ok (.isub, 1) := by decide +kernel
theorem dX11_count_91 : decode cX11_count 91 = .ok (.aaload, 1) := by decide +kernel
theorem dX11_count_92 : decode cX11_count 92 = .ok (.getfield 151, 3) := by decide +kernel
theorem dX11_count_95 : decode cX11_count 95 = .ok (.ireturn, 1) := by decide +kernel
theorem dX11_count_96 : decode cX11_count 96 = .ok (.iload_n 1, 1) := by decide +kernel
theorem dX11_count_97 : decode cX11_count 97 = .ok (.tableswitch 99 0 6 #[43, 51, 59, 67, 75, 83, 91], 43) := by decide +kernel
theorem dX11_count_140 : decode cX11_count 140 = .ok (.aload_n 0, 1) := by decide +kernel
theorem dX11_count_141 : decode cX11_count 141 = .ok (.getfield 100, 3) := by decide +kernel
theorem dX11_count_144 : decode cX11_count 144 = .ok (.getfield 196, 3) := by decide +kernel
theorem dX11_count_147 : decode cX11_count 147 = .ok (.ireturn, 1) := by decide +kernel
theorem dX11_count_148 : decode cX11_count 148 = .ok (.aload_n 0, 1) := by decide +kernel
theorem dX11_count_149 : decode cX11_count 149 = .ok (.getfield 100, 3) := by decide +kernel
theorem dX11_count_152 : decode cX11_count 152 = .ok (.getfield 197, 3) := by decide +kernel
theorem dX11_count_155 : decode cX11_count 155 = .ok (.ireturn, 1) := by decide +kernel
theorem dX11_count_156 : decode cX11_count 156 = .ok (.aload_n 0, 1) := by decide +kernel
theorem dX11_count_157 : decode cX11_count 157 = .ok (.getfield 100, 3) := by decide +kernel
theorem dX11_count_160 : decode cX11_count 160 = .ok (.getfield 191, 3) := by decide +kernel
theorem dX11_count_163 : decode cX11_count 163 = .ok (.ireturn, 1) := by decide +kernel
theorem dX11_count_164 : decode cX11_count 164 = .ok (.aload_n 0, 1) := by decide +kernel
theorem dX11_count_165 : decode cX11_count 165 = .ok (.getfield 10, 3) := by decide +kernel
theorem dX11_count_168 : decode cX11_count 168 = .ok (.getfield 131, 3) := by decide +kernel
theorem dX11_count_171 : decode cX11_count 171 = .ok (.ireturn, 1) := by decide +kernel
theorem dX11_count_172 : decode cX11_count 172 = .ok (.aload_n 0, 1) := by decide +kernel
theorem dX11_count_173 : decode cX11_count 173 = .ok (.getfield 100, 3) := by decide +kernel
theorem dX11_count_176 : decode cX11_count 176 = .ok (.getfield 104, 3) := by decide +kernel
theorem dX11_count_179 : decode cX11_count 179 = .ok (.ireturn, 1) := by decide +kernel
theorem dX11_count_180 : decode cX11_count 180 = .ok (.aload_n 0, 1) := by decide +kernel
theorem dX11_count_181 : decode cX11_count 181 = .ok (.getfield 93, 3) := by decide +kernel
theorem dX11_count_184 : decode cX11_count 184 = .ok (.getfield 267, 3) := by decide +kernel
theorem dX11_count_187 : decode cX11_count 187 = .ok (.ireturn, 1) := by decide +kernel
theorem dX11_count_188 : decode cX11_count 188 = .ok (.aload_n 0, 1) := by decide +kernel
theorem dX11_count_189 : decode cX11_count 189 = .ok (.getfield 19, 3) := by decide +kernel
theorem dX11_count_192 : decode cX11_count 192 = .ok (.invokevirtual 294, 3) := by decide +kernel
theorem dX11_count_195 : decode cX11_count 195 = .ok (.ireturn, 1) := by decide +kernel
theorem dX11_count_196 : decode cX11_count 196 = .ok (.iconst (-1), 1) := by decide +kernel
theorem dX11_count_197 : decode cX11_count 197 = .ok (.ireturn, 1) := by decide +kernel
theorem dX11_within_0 : decode cX11_within 0 = .ok (.iload_n 0, 1) := by decide +kernel
theorem dX11_within_1 : decode cX11_within 1 = .ok (.iload_n 1, 1) := by decide +kernel
theorem dX11_within_2 : decode cX11_within 2 = .ok (.if_icmp .lt 12, 3) := by decide +kernel
theorem dX11_within_5 : decode cX11_within 5 = .ok (.iload_n 0, 1) := by decide +kernel
theorem dX11_within_6 : decode cX11_within 6 = .ok (.iload_n 2, 1) := by decide +kernel
theorem dX11_within_7 : decode cX11_within 7 = .ok (.if_icmp .gt 7, 3) := by decide +kernel
theorem dX11_within_10 : decode cX11_within 10 = .ok (.iconst 1, 1) := by decide +kernel
theorem dX11_within_11 : decode cX11_within 11 = .ok (.goto 4, 3) := by decide +kernel
theorem dX11_within_14 : decode cX11_within 14 = .ok (.iconst 0, 1) := by decide +kernel
theorem dX11_within_15 : decode cX11_within 15 = .ok (.ireturn, 1) := by decide +kernel
theorem dX11_copyMeasures_0 : decode cX11_copyMeasures 0 = .ok (.aload_n 0, 1) := by decide +kernel
theorem dX11_copyMeasures_1 : decode cX11_copyMeasures 1 = .ok (.iconst 0, 1) := by decide +kernel
theorem dX11_copyMeasures_2 : decode cX11_copyMeasures 2 = .ok (.aload_n 1, 1) := by decide +kernel
theorem dX11_copyMeasures_3 : decode cX11_copyMeasures 3 = .ok (.iconst 0, 1) := by decide +kernel
theorem dX11_copyMeasures_4 : decode cX11_copyMeasures 4 = .ok (.bipush 6, 2) := by decide +kernel
theorem dX11_copyMeasures_6 : decode cX11_copyMeasures 6 = .ok (.invokestatic 310, 3) := by decide +kernel
theorem dX11_copyMeasures_9 : decode cX11_copyMeasures 9 = .ok (.return_, 1) := by decide +kernel
theorem dX11_isRecipe_0 : decode cX11_isRecipe 0 = .ok (.iload_n 0, 1) := by decide +kernel
theorem dX11_isRecipe_1 : decode cX11_isRecipe 1 = .ok (.iconst 0, 1) := by decide +kernel
theorem dX11_isRecipe_2 : decode cX11_isRecipe 2 = .ok (.iconst 2, 1) := by decide +kernel
theorem dX11_isRecipe_3 : decode cX11_isRecipe 3 = .ok (.invokestatic 115, 3) := by decide +kernel
theorem dX11_isRecipe_6 : decode cX11_isRecipe 6 = .ok (.ireturn, 1) := by decide +kernel
theorem dX11_hasText_0 : decode cX11_hasText 0 = .ok (.iload_n 1, 1) := by decide +kernel
theorem dX11_hasText_1 : decode cX11_hasText 1 = .ok (.iconst 1, 1) := by decide +kernel
theorem dX11_hasText_2 : decode cX11_hasText 2 = .ok (.bipush 120, 2) := by decide +kernel
theorem dX11_hasText_4 : decode cX11_hasText 4 = .ok (.invokestatic 115, 3) := by decide +kernel
theorem dX11_hasText_7 : decode cX11_hasText 7 = .ok (.ifCond .eq 18, 3) := by decide +kernel
theorem dX11_hasText_10 : decode cX11_hasText 10 = .ok (.aload_n 0, 1) := by decide +kernel
theorem dX11_hasText_11 : decode cX11_hasText 11 = .ok (.getfield 10, 3) := by decide +kernel
theorem dX11_hasText_14 : decode cX11_hasText 14 = .ok (.getfield 131, 3) := by decide +kernel
theorem dX11_hasText_17 : decode cX11_hasText 17 = .ok (.iload_n 1, 1) := by decide +kernel
theorem dX11_hasText_18 : decode cX11_hasText 18 = .ok (.if_icmp .lt 7, 3) := by decide +kernel
theorem dX11_hasText_21 : decode cX11_hasText 21 = .ok (.iconst 1, 1) := by decide +kernel
theorem dX11_hasText_22 : decode cX11_hasText 22 = .ok (.goto 4, 3) := by decide +kernel
theorem dX11_hasText_25 : decode cX11_hasText 25 = .ok (.iconst 0, 1) := by decide +kernel
theorem dX11_hasText_26 : decode cX11_hasText 26 = .ok (.ireturn, 1) := by decide +kernel
theorem dX11_isSurvey_0 : decode cX11_isSurvey 0 = .ok (.iload_n 0, 1) := by decide +kernel
theorem dX11_isSurvey_1 : decode cX11_isSurvey 1 = .ok (.iconst 1, 1) := by decide +kernel
theorem dX11_isSurvey_2 : decode cX11_isSurvey 2 = .ok (.bipush 63, 2) := by decide +kernel
theorem dX11_isSurvey_4 : decode cX11_isSurvey 4 = .ok (.invokestatic 115, 3) := by decide +kernel
theorem dX11_isSurvey_7 : decode cX11_isSurvey 7 = .ok (.ifCond .eq 34, 3) := by decide +kernel
theorem dX11_isSurvey_10 : decode cX11_isSurvey 10 = .ok (.iload_n 0, 1) := by decide +kernel
theorem dX11_isSurvey_11 : decode cX11_isSurvey 11 = .ok (.invokestatic 261, 3) := by decide +kernel
theorem dX11_isSurvey_14 : decode cX11_isSurvey 14 = .ok (.iconst 3, 1) := by decide +kernel
theorem dX11_isSurvey_15 : decode cX11_isSurvey 15 = .ok (.if_icmp .gt 26, 3) := by decide +kernel
theorem dX11_isSurvey_18 : decode cX11_isSurvey 18 = .ok (.iload_n 1, 1) := by decide +kernel
theorem dX11_isSurvey_19 : decode cX11_isSurvey 19 = .ok (.iconst 1, 1) := by decide +kernel
theorem dX11_isSurvey_20 : decode cX11_isSurvey 20 = .ok (.bipush 20, 2) := by decide +kernel
theorem dX11_isSurvey_22 : decode cX11_isSurvey 22 = .ok (.invokestatic 115, 3) := by decide +kernel
theorem dX11_isSurvey_25 : decode cX11_isSurvey 25 = .ok (.ifCond .eq 16, 3) := by decide +kernel
theorem dX11_isSurvey_28 : decode cX11_isSurvey 28 = .ok (.iload_n 2, 1) := by decide +kernel
theorem dX11_isSurvey_29 : decode cX11_isSurvey 29 = .ok (.iconst (-1), 1) := by decide +kernel
theorem dX11_isSurvey_30 : decode cX11_isSurvey 30 = .ok (.iconst 5, 1) := by decide +kernel
theorem dX11_isSurvey_31 : decode cX11_isSurvey 31 = .ok (.invokestatic 115, 3) := by decide +kernel
theorem dX11_isSurvey_34 : decode cX11_isSurvey 34 = .ok (.ifCond .eq 7, 3) := by decide +kernel
theorem dX11_isSurvey_37 : decode cX11_isSurvey 37 = .ok (.iconst 1, 1) := by decide +kernel
theorem dX11_isSurvey_38 : decode cX11_isSurvey 38 = .ok (.goto 4, 3) := by decide +kernel
theorem dX11_isSurvey_41 : decode cX11_isSurvey 41 = .ok (.iconst 0, 1) := by decide +kernel
theorem dX11_isSurvey_42 : decode cX11_isSurvey 42 = .ok (.ireturn, 1) := by decide +kernel
theorem dX11_firstWrong_0 : decode cX11_firstWrong 0 = .ok (.iconst 0, 1) := by decide +kernel
theorem dX11_firstWrong_1 : decode cX11_firstWrong 1 = .ok (.istore_n 2, 1) := by decide +kernel
theorem dX11_firstWrong_2 : decode cX11_firstWrong 2 = .ok (.iload_n 2, 1) := by decide +kernel
theorem dX11_firstWrong_3 : decode cX11_firstWrong 3 = .ok (.iload_n 1, 1) := by decide +kernel
theorem dX11_firstWrong_4 : decode cX11_firstWrong 4 = .ok (.if_icmp .ge 37, 3) := by decide +kernel
theorem dX11_firstWrong_7 : decode cX11_firstWrong 7 = .ok (.iload_n 2, 1) := by decide +kernel
theorem dX11_firstWrong_8 : decode cX11_firstWrong 8 = .ok (.bipush 6, 2) := by decide +kernel
theorem dX11_firstWrong_10 : decode cX11_firstWrong 10 = .ok (.if_icmp .ge 31, 3) := by decide +kernel
theorem dX11_firstWrong_13 : decode cX11_firstWrong 13 = .ok (.aload_n 0, 1) := by decide +kernel
theorem dX11_firstWrong_14 : decode cX11_firstWrong 14 = .ok (.getfield 10, 3) := by decide +kernel
theorem dX11_firstWrong_17 : decode cX11_firstWrong 17 = .ok (.iload_n 2, 1) := by decide +kernel
theorem dX11_firstWrong_18 : decode cX11_firstWrong 18 = .ok (.invokevirtual 316, 3) := by decide +kernel
theorem dX11_firstWrong_21 : decode cX11_firstWrong 21 = .ok (.aload_n 0, 1) := by decide +kernel
theorem dX11_firstWrong_22 : decode cX11_firstWrong 22 = .ok (.getfield 19, 3) := by decide +kernel
theorem dX11_firstWrong_25 : decode cX11_firstWrong 25 = .ok (.getfield 157, 3) := by decide +kernel
theorem dX11_firstWrong_28 : decode cX11_firstWrong 28 = .ok (.iload_n 2, 1) := by decide +kernel
theorem dX11_firstWrong_29 : decode cX11_firstWrong 29 = .ok (.iaload, 1) := by decide +kernel
theorem dX11_firstWrong_30 : decode cX11_firstWrong 30 = .ok (.if_icmp .eq 5, 3) := by decide +kernel
theorem dX11_firstWrong_33 : decode cX11_firstWrong 33 = .ok (.iload_n 2, 1) := by decide +kernel
theorem dX11_firstWrong_34 : decode cX11_firstWrong 34 = .ok (.ireturn, 1) := by decide +kernel
theorem dX11_firstWrong_35 : decode cX11_firstWrong 35 = .ok (.iinc 2 1, 3) := by decide +kernel
theorem dX11_firstWrong_38 : decode cX11_firstWrong 38 = .ok (.goto (-36), 3) := by decide +kernel
theorem dX11_firstWrong_41 : decode cX11_firstWrong 41 = .ok (.iconst (-1), 1) := by decide +kernel
theorem dX11_firstWrong_42 : decode cX11_firstWrong 42 = .ok (.ireturn, 1) := by decide +kernel
theorem dX11_pourAtNight_0 : decode cX11_pourAtNight 0 = .ok (.iload_n 2, 1) := by decide +kernel
theorem dX11_pourAtNight_1 : decode cX11_pourAtNight 1 = .ok (.ifCond .ne 32, 3) := by decide +kernel
theorem dX11_pourAtNight_4 : decode cX11_pourAtNight 4 = .ok (.aload_n 0, 1) := by decide +kernel
theorem dX11_pourAtNight_5 : decode cX11_pourAtNight 5 = .ok (.getfield 19, 3) := by decide +kernel
theorem dX11_pourAtNight_8 : decode cX11_pourAtNight 8 = .ok (.getfield 157, 3) := by decide +kernel
theorem dX11_pourAtNight_11 : decode cX11_pourAtNight 11 = .ok (.iload_n 1, 1) := by decide +kernel
theorem dX11_pourAtNight_12 : decode cX11_pourAtNight 12 = .ok (.iaload, 1) := by decide +kernel
theorem dX11_pourAtNight_13 : decode cX11_pourAtNight 13 = .ok (.ifCond .ne 5, 3) := by decide +kernel
theorem dX11_pourAtNight_16 : decode cX11_pourAtNight 16 = .ok (.iconst 0, 1) := by decide +kernel
theorem dX11_pourAtNight_17 : decode cX11_pourAtNight 17 = .ok (.ireturn, 1) := by decide +kernel
theorem dX11_pourAtNight_18 : decode cX11_pourAtNight 18 = .ok (.aload_n 0, 1) := by decide +kernel
theorem dX11_pourAtNight_19 : decode cX11_pourAtNight 19 = .ok (.getfield 19, 3) := by decide +kernel
theorem dX11_pourAtNight_22 : decode cX11_pourAtNight 22 = .ok (.getfield 157, 3) := by decide +kernel
theorem dX11_pourAtNight_25 : decode cX11_pourAtNight 25 = .ok (.iload_n 1, 1) := by decide +kernel
theorem dX11_pourAtNight_26 : decode cX11_pourAtNight 26 = .ok (.dup2, 1) := by decide +kernel
theorem dX11_pourAtNight_27 : decode cX11_pourAtNight 27 = .ok (.iaload, 1) := by decide +kernel
theorem dX11_pourAtNight_28 : decode cX11_pourAtNight 28 = .ok (.iconst 1, 1) := by decide +kernel
theorem dX11_pourAtNight_29 : decode cX11_pourAtNight 29 = .ok (.isub, 1) := by decide +kernel
theorem dX11_pourAtNight_30 : decode cX11_pourAtNight 30 = .ok (.iastore, 1) := by decide +kernel
theorem dX11_pourAtNight_31 : decode cX11_pourAtNight 31 = .ok (.iconst 1, 1) := by decide +kernel
theorem dX11_pourAtNight_32 : decode cX11_pourAtNight 32 = .ok (.ireturn, 1) := by decide +kernel
theorem dX11_pourAtNight_33 : decode cX11_pourAtNight 33 = .ok (.aload_n 0, 1) := by decide +kernel
theorem dX11_pourAtNight_34 : decode cX11_pourAtNight 34 = .ok (.getfield 19, 3) := by decide +kernel
theorem dX11_pourAtNight_37 : decode cX11_pourAtNight 37 = .ok (.getfield 157, 3) := by decide +kernel
theorem dX11_pourAtNight_40 : decode cX11_pourAtNight 40 = .ok (.iload_n 1, 1) := by decide +kernel
theorem dX11_pourAtNight_41 : decode cX11_pourAtNight 41 = .ok (.iaload, 1) := by decide +kernel
theorem dX11_pourAtNight_42 : decode cX11_pourAtNight 42 = .ok (.aload_n 0, 1) := by decide +kernel
theorem dX11_pourAtNight_43 : decode cX11_pourAtNight 43 = .ok (.getfield 19, 3) := by decide +kernel
theorem dX11_pourAtNight_46 : decode cX11_pourAtNight 46 = .ok (.getfield 304, 3) := by decide +kernel
theorem dX11_pourAtNight_49 : decode cX11_pourAtNight 49 = .ok (.iload_n 1, 1) := by decide +kernel
theorem dX11_pourAtNight_50 : decode cX11_pourAtNight 50 = .ok (.iaload, 1) := by decide +kernel
theorem dX11_pourAtNight_51 : decode cX11_pourAtNight 51 = .ok (.if_icmp .lt 5, 3) := by decide +kernel
theorem dX11_pourAtNight_54 : decode cX11_pourAtNight 54 = .ok (.iconst 1, 1) := by decide +kernel
theorem dX11_pourAtNight_55 : decode cX11_pourAtNight 55 = .ok (.ireturn, 1) := by decide +kernel
theorem dX11_pourAtNight_56 : decode cX11_pourAtNight 56 = .ok (.aload_n 0, 1) := by decide +kernel
theorem dX11_pourAtNight_57 : decode cX11_pourAtNight 57 = .ok (.getfield 19, 3) := by decide +kernel
theorem dX11_pourAtNight_60 : decode cX11_pourAtNight 60 = .ok (.getfield 157, 3) := by decide +kernel
theorem dX11_pourAtNight_63 : decode cX11_pourAtNight 63 = .ok (.iload_n 1, 1) := by decide +kernel
theorem dX11_pourAtNight_64 : decode cX11_pourAtNight 64 = .ok (.dup2, 1) := by decide +kernel
theorem dX11_pourAtNight_65 : decode cX11_pourAtNight 65 = .ok (.iaload, 1) := by decide +kernel
theorem dX11_pourAtNight_66 : decode cX11_pourAtNight 66 = .ok (.iconst 1, 1) := by decide +kernel
theorem dX11_pourAtNight_67 : decode cX11_pourAtNight 67 = .ok (.iadd, 1) := by decide +kernel
theorem dX11_pourAtNight_68 : decode cX11_pourAtNight 68 = .ok (.iastore, 1) := by decide +kernel
theorem dX11_pourAtNight_69 : decode cX11_pourAtNight 69 = .ok (.iconst 0, 1) := by decide +kernel
theorem dX11_pourAtNight_70 : decode cX11_pourAtNight 70 = .ok (.ireturn, 1) := by decide +kernel
theorem dX11_unfelt_0 : decode cX11_unfelt 0 = .ok (.iconst 0, 1) := by decide +kernel
theorem dX11_unfelt_1 : decode cX11_unfelt 1 = .ok (.istore 5, 2) := by decide +kernel
theorem dX11_unfelt_3 : decode cX11_unfelt 3 = .ok (.aload_n 0, 1) := by decide +kernel
theorem dX11_unfelt_4 : decode cX11_unfelt 4 = .ok (.getfield 58, 3) := by decide +kernel
theorem dX11_unfelt_7 : decode cX11_unfelt 7 = .ok (.aload_n 0, 1) := by decide +kernel
theorem dX11_unfelt_8 : decode cX11_unfelt 8 = .ok (.getfield 19, 3) := by decide +kernel
theorem dX11_unfelt_11 : decode cX11_unfelt 11 = .ok (.getfield 157, 3) := by decide +kernel
theorem dX11_unfelt_14 : decode cX11_unfelt 14 = .ok (.iconst 0, 1) := by decide +kernel
theorem dX11_unfelt_15 : decode cX11_unfelt 15 = .ok (.invokevirtual 161, 3) := by decide +kernel
theorem dX11_unfelt_18 : decode cX11_unfelt 18 = .ok (.iconst 0, 1) := by decide +kernel
theorem dX11_unfelt_19 : decode cX11_unfelt 19 = .ok (.istore 6, 2) := by decide +kernel
theorem dX11_unfelt_21 : decode cX11_unfelt 21 = .ok (.iload 6, 2) := by decide +kernel
theorem dX11_unfelt_23 : decode cX11_unfelt 23 = .ok (.iload_n 2, 1) := by decide +kernel
theorem dX11_unfelt_24 : decode cX11_unfelt 24 = .ok (.if_icmp .ge 104, 3) := by decide +kernel
theorem dX11_unfelt_27 : decode cX11_unfelt 27 = .ok (.aload_n 0, 1) := by decide +kernel
theorem dX11_unfelt_28 : decode cX11_unfelt 28 = .ok (.getfield 58, 3) := by decide +kernel
theorem dX11_unfelt_31 : decode cX11_unfelt 31 = .ok (.aload_n 1, 1) := by decide +kernel
theorem dX11_unfelt_32 : decode cX11_unfelt 32 = .ok (.invokevirtual 319, 3) := by decide +kernel
theorem dX11_unfelt_35 : decode cX11_unfelt 35 = .ok (.ifCond .ne 93, 3) := by decide +kernel
theorem dX11_unfelt_38 : decode cX11_unfelt 38 = .ok (.aload_n 1, 1) := by decide +kernel
theorem dX11_unfelt_39 : decode cX11_unfelt 39 = .ok (.aload_n 0, 1) := by decide +kernel
theorem dX11_unfelt_40 : decode cX11_unfelt 40 = .ok (.getfield 58, 3) := by decide +kernel
theorem dX11_unfelt_43 : decode cX11_unfelt 43 = .ok (.getfield 323, 3) := by decide +kernel
theorem dX11_unfelt_46 : decode cX11_unfelt 46 = .ok (.invokevirtual 326, 3) := by decide +kernel
theorem dX11_unfelt_49 : decode cX11_unfelt 49 = .ok (.ifCond .eq 64, 3) := by decide +kernel
theorem dX11_unfelt_52 : decode cX11_unfelt 52 = .ok (.aload_n 0, 1) := by decide +kernel
theorem dX11_unfelt_53 : decode cX11_unfelt 53 = .ok (.getfield 62, 3) := by decide +kernel
theorem dX11_unfelt_56 : decode cX11_unfelt 56 = .ok (.aload_n 0, 1) := by decide +kernel
theorem dX11_unfelt_57 : decode cX11_unfelt 57 = .ok (.getfield 58, 3) := by decide +kernel
theorem dX11_unfelt_60 : decode cX11_unfelt 60 = .ok (.invokevirtual 329, 3) := by decide +kernel
theorem dX11_unfelt_63 : decode cX11_unfelt 63 = .ok (.aload_n 0, 1) := by decide +kernel
theorem dX11_unfelt_64 : decode cX11_unfelt 64 = .ok (.getfield 62, 3) := by decide +kernel
theorem dX11_unfelt_67 : decode cX11_unfelt 67 = .ok (.aload_n 1, 1) := by decide +kernel
theorem dX11_unfelt_68 : decode cX11_unfelt 68 = .ok (.iload_n 3, 1) := by decide +kernel
theorem dX11_unfelt_69 : decode cX11_unfelt 69 = .ok (.invokevirtual 332, 3) := by decide +kernel
theorem dX11_unfelt_72 : decode cX11_unfelt 72 = .ok (.aload_n 0, 1) := by decide +kernel
theorem dX11_unfelt_73 : decode cX11_unfelt 73 = .ok (.getfield 62, 3) := by decide +kernel
theorem dX11_unfelt_76 : decode cX11_unfelt 76 = .ok (.aload_n 1, 1) := by decide +kernel
theorem dX11_unfelt_77 : decode cX11_unfelt 77 = .ok (.iload_n 2, 1) := by decide +kernel
theorem dX11_unfelt_78 : decode cX11_unfelt 78 = .ok (.invokevirtual 165, 3) := by decide +kernel
theorem dX11_unfelt_81 : decode cX11_unfelt 81 = .ok (.aload_n 0, 1) := by decide +kernel
theorem dX11_unfelt_82 : decode cX11_unfelt 82 = .ok (.getfield 37, 3) := by decide +kernel
theorem dX11_unfelt_85 : decode cX11_unfelt 85 = .ok (.aload_n 0, 1) := by decide +kernel
theorem dX11_unfelt_86 : decode cX11_unfelt 86 = .ok (.getfield 62, 3) := by decide +kernel
theorem dX11_unfelt_89 : decode cX11_unfelt 89 = .ok (.invokevirtual 184, 3) := by decide +kernel
theorem dX11_unfelt_92 : decode cX11_unfelt 92 = .ok (.ifCond .eq 21, 3) := by decide +kernel
theorem dX11_unfelt_95 : decode cX11_unfelt 95 = .ok (.iload 4, 2) := by decide +kernel
theorem dX11_unfelt_97 : decode cX11_unfelt 97 = .ok (.ifCond .eq 13, 3) := by decide +kernel
theorem dX11_unfelt_100 : decode cX11_unfelt 100 = .ok (.aload_n 0, 1) := by decide +kernel
theorem dX11_unfelt_101 : decode cX11_unfelt 101 = .ok (.getfield 58, 3) := by decide +kernel
theorem dX11_unfelt_104 : decode cX11_unfelt 104 = .ok (.getfield 172, 3) := by decide +kernel
theorem dX11_unfelt_107 : decode cX11_unfelt 107 = .ok (.iconst 1, 1) := by decide +kernel
theorem dX11_unfelt_108 : decode cX11_unfelt 108 = .ok (.iadd, 1) := by decide +kernel
theorem dX11_unfelt_109 : decode cX11_unfelt 109 = .ok (.ireturn, 1) := by decide +kernel
theorem dX11_unfelt_110 : decode cX11_unfelt 110 = .ok (.iinc 5 1, 3) := by decide +kernel
theorem dX11_unfelt_113 : decode cX11_unfelt 113 = .ok (.aload_n 0, 1) := by decide +kernel
theorem dX11_unfelt_114 : decode cX11_unfelt 114 = .ok (.getfield 58, 3) := by decide +kernel
theorem dX11_unfelt_117 : decode cX11_unfelt 117 = .ok (.aload_n 1, 1) := by decide +kernel
theorem dX11_unfelt_118 : decode cX11_unfelt 118 = .ok (.iconst 1, 1) := by decide +kernel
theorem dX11_unfelt_119 : decode cX11_unfelt 119 = .ok (.invokevirtual 332, 3) := by decide +kernel
theorem dX11_unfelt_122 : decode cX11_unfelt 122 = .ok (.iinc 6 1, 3) := by decide +kernel
theorem dX11_unfelt_125 : decode cX11_unfelt 125 = .ok (.goto (-104), 3) := by decide +kernel
theorem dX11_unfelt_128 : decode cX11_unfelt 128 = .ok (.iload 4, 2) := by decide +kernel
theorem dX11_unfelt_130 : decode cX11_unfelt 130 = .ok (.ifCond .eq 8, 3) := by decide +kernel
theorem dX11_unfelt_133 : decode cX11_unfelt 133 = .ok (.bipush (-2), 2) := by decide +kernel
theorem dX11_unfelt_135 : decode cX11_unfelt 135 = .ok (.goto 5, 3) := by decide +kernel
theorem dX11_unfelt_138 : decode cX11_unfelt 138 = .ok (.iload 5, 2) := by decide +kernel
theorem dX11_unfelt_140 : decode cX11_unfelt 140 = .ok (.ireturn, 1) := by decide +kernel
theorem dX12_init_0 : decode cX12_init 0 = .ok (.aload_n 0, 1) := by decide +kernel
theorem dX12_init_1 : decode cX12_init 1 = .ok (.invokespecial 1, 3) := by decide +kernel
theorem dX12_init_4 : decode cX12_init 4 = .ok (.aload_n 0, 1) := by decide +kernel
theorem dX12_init_5 : decode cX12_init 5 = .ok (.bipush 6, 2) := by decide +kernel
theorem dX12_init_7 : decode cX12_init 7 = .ok (.newarray .int, 2) := by decide +kernel
theorem dX12_init_9 : decode cX12_init 9 = .ok (.putfield 7, 3) := by decide +kernel
theorem dX12_init_12 : decode cX12_init 12 = .ok (.aload_n 0, 1) := by decide +kernel
theorem dX12_init_13 : decode cX12_init 13 = .ok (.bipush 6, 2) := by decide +kernel
theorem dX12_init_15 : decode cX12_init 15 = .ok (.newarray .int, 2) := by decide +kernel
theorem dX12_init_17 : decode cX12_init 17 = .ok (.putfield 13, 3) := by decide +kernel
theorem dX12_init_20 : decode cX12_init 20 = .ok (.aload_n 0, 1) := by decide +kernel
theorem dX12_init_21 : decode cX12_init 21 = .ok (.bipush 6, 2) := by decide +kernel
theorem dX12_init_23 : decode cX12_init 23 = .ok (.newarray .int, 2) := by decide +kernel
theorem dX12_init_25 : decode cX12_init 25 = .ok (.putfield 16, 3) := by decide +kernel
theorem dX12_init_28 : decode cX12_init 28 = .ok (.aload_n 0, 1) := by decide +kernel
theorem dX12_init_29 : decode cX12_init 29 = .ok (.sipush 160, 3) := by decide +kernel
theorem dX12_init_32 : decode cX12_init 32 = .ok (.newarray .byte, 2) := by decide +kernel
theorem dX12_init_34 : decode cX12_init 34 = .ok (.putfield 19, 3) := by decide +kernel
theorem dX12_init_37 : decode cX12_init 37 = .ok (.aload_n 0, 1) := by decide +kernel
theorem dX12_init_38 : decode cX12_init 38 = .ok (.sipush 180, 3) := by decide +kernel
theorem dX12_init_41 : decode cX12_init 41 = .ok (.newarray .int, 2) := by decide +kernel
theorem dX12_init_43 : decode cX12_init 43 = .ok (.putfield 23, 3) := by decide +kernel
theorem dX12_init_46 : decode cX12_init 46 = .ok (.aload_n 0, 1) := by decide +kernel
theorem dX12_init_47 : decode cX12_init 47 = .ok (.sipush 180, 3) := by decide +kernel
theorem dX12_init_50 : decode cX12_init 50 = .ok (.newarray .int, 2) := by decide +kernel
theorem dX12_init_52 : decode cX12_init 52 = .ok (.putfield 26, 3) := by decide +kernel
theorem dX12_init_55 : decode cX12_init 55 = .ok (.aload_n 0, 1) := by decide +kernel
theorem dX12_init_56 : decode cX12_init 56 = .ok (.sipush 180, 3) := by decide +kernel
theorem dX12_init_59 : decode cX12_init 59 = .ok (.newarray .int, 2) := by decide +kernel
theorem dX12_init_61 : decode cX12_init 61 = .ok (.putfield 29, 3) := by decide +kernel
theorem dX12_init_64 : decode cX12_init 64 = .ok (.aload_n 0, 1) := by decide +kernel
theorem dX12_init_65 : decode cX12_init 65 = .ok (.sipush 180, 3) := by decide +kernel
theorem dX12_init_68 : decode cX12_init 68 = .ok (.newarray .int, 2) := by decide +kernel
theorem dX12_init_70 : decode cX12_init 70 = .ok (.putfield 32, 3) := by decide +kernel
theorem dX12_init_73 : decode cX12_init 73 = .ok (.aload_n 0, 1) := by decide +kernel
theorem dX12_init_74 : decode cX12_init 74 = .ok (.bipush 16, 2) := by decide +kernel
theorem dX12_init_76 : decode cX12_init 76 = .ok (.newarray .int, 2) := by decide +kernel
theorem dX12_init_78 : decode cX12_init 78 = .ok (.putfield 35, 3) := by decide +kernel
theorem dX12_init_81 : decode cX12_init 81 = .ok (.aload_n 0, 1) := by decide +kernel
theorem dX12_init_82 : decode cX12_init 82 = .ok (.sipush 160, 3) := by decide +kernel
theorem dX12_init_85 : decode cX12_init 85 = .ok (.newarray .int, 2) := by decide +kernel
theorem dX12_init_87 : decode cX12_init 87 = .ok (.putfield 38, 3) := by decide +kernel
theorem dX12_init_90 : decode cX12_init 90 = .ok (.aload_n 0, 1) := by decide +kernel
theorem dX12_init_91 : decode cX12_init 91 = .ok (.sipush 160, 3) := by decide +kernel
theorem dX12_init_94 : decode cX12_init 94 = .ok (.newarray .int, 2) := by decide +kernel
theorem dX12_init_96 : decode cX12_init 96 = .ok (.putfield 41, 3) := by decide +kernel
theorem dX12_init_99 : decode cX12_init 99 = .ok (.aload_n 0, 1) := by decide +kernel
theorem dX12_init_100 : decode cX12_init 100 = .ok (.sipush 160, 3) := by decide +kernel
theorem dX12_init_103 : decode cX12_init 103 = .ok (.newarray .int, 2) := by decide +kernel
theorem dX12_init_105 : decode cX12_init 105 = .ok (.putfield 44, 3) := by decide +kernel
theorem dX12_init_108 : decode cX12_init 108 = .ok (.aload_n 0, 1) := by decide +kernel
theorem dX12_init_109 : decode cX12_init 109 = .ok (.sipush 480, 3) := by decide +kernel
theorem dX12_init_112 : decode cX12_init 112 = .ok (.newarray .int, 2) := by decide +kernel
theorem dX12_init_114 : decode cX12_init 114 = .ok (.putfield 47, 3) := by decide +kernel
theorem dX12_init_117 : decode cX12_init 117 = .ok (.aload_n 0, 1) := by decide +kernel
theorem dX12_init_118 : decode cX12_init 118 = .ok (.sipush 480, 3) := by decide +kernel
theorem dX12_init_121 : decode cX12_init 121 = .ok (.newarray .int, 2) := by decide +kernel
theorem dX12_init_123 : decode cX12_init 123 = .ok (.putfield 50, 3) := by decide +kernel
theorem dX12_init_126 : decode cX12_init 126 = .ok (.aload_n 0, 1) := by decide +kernel
theorem dX12_init_127 : decode cX12_init 127 = .ok (.sipush 480, 3) := by decide +kernel
theorem dX12_init_130 : decode cX12_init 130 = .ok (.newarray .int, 2) := by decide +kernel
theorem dX12_init_132 : decode cX12_init 132 = .ok (.putfield 53, 3) := by decide +kernel
theorem dX12_init_135 : decode cX12_init 135 = .ok (.aload_n 0, 1) := by decide +kernel
theorem dX12_init_136 : decode cX12_init 136 = .ok (.iconst 3, 1) := by decide +kernel
theorem dX12_init_137 : decode cX12_init 137 = .ok (.newarray .int, 2) := by decide +kernel
theorem dX12_init_139 : decode cX12_init 139 = .ok (.putfield 56, 3) := by decide +kernel
theorem dX12_init_142 : decode cX12_init 142 = .ok (.aload_n 0, 1) := by decide +kernel
theorem dX12_init_143 : decode cX12_init 143 = .ok (.iconst 3, 1) := by decide +kernel
theorem dX12_init_144 : decode cX12_init 144 = .ok (.newarray .int, 2) := by decide +kernel
theorem dX12_init_146 : decode cX12_init 146 = .ok (.putfield 59, 3) := by decide +kernel
theorem dX12_init_149 : decode cX12_init 149 = .ok (.aload_n 0, 1) := by decide +kernel
theorem dX12_init_150 : decode cX12_init 150 = .ok (.bipush 7, 2) := by decide +kernel
theorem dX12_init_152 : decode cX12_init 152 = .ok (.newarray .int, 2) := by decide +kernel
theorem dX12_init_154 : decode cX12_init 154 = .ok (.putfield 62, 3) := by decide +kernel
theorem dX12_init_157 : decode cX12_init 157 = .ok (.aload_n 0, 1) := by decide +kernel
theorem dX12_init_158 : decode cX12_init 158 = .ok (.bipush 7, 2) := by decide +kernel
theorem dX12_init_160 : decode cX12_init 160 = .ok (.newarray .int, 2) := by decide +kernel
theorem dX12_init_162 : decode cX12_init 162 = .ok (.putfield 65, 3) := by decide +kernel
theorem dX12_init_165 : decode cX12_init 165 = .ok (.aload_n 0, 1) := by decide +kernel
theorem dX12_init_166 : decode cX12_init 166 = .ok (.bipush 6, 2) := by decide +kernel
theorem dX12_init_168 : decode cX12_init 168 = .ok (.newarray .int, 2) := by decide +kernel
theorem dX12_init_170 : decode cX12_init 170 = .ok (.putfield 68, 3) := by decide +kernel
theorem dX12_init_173 : decode cX12_init 173 = .ok (.aload_n 0, 1) := by decide +kernel
theorem dX12_init_174 : decode cX12_init 174 = .ok (.bipush 6, 2) := by decide +kernel
theorem dX12_init_176 : decode cX12_init 176 = .ok (.newarray .int, 2) := by decide +kernel
theorem dX12_init_178 : decode cX12_init 178 = .ok (.putfield 71, 3) := by decide +kernel
theorem dX12_init_181 : decode cX12_init 181 = .ok (.aload_n 0, 1) := by decide +kernel
theorem dX12_init_182 : decode cX12_init 182 = .ok (.bipush 6, 2) := by decide +kernel
theorem dX12_init_184 : decode cX12_init 184 = .ok (.newarray .int, 2) := by decide +kernel
theorem dX12_init_186 : decode cX12_init 186 = .ok (.putfield 74, 3) := by decide +kernel
theorem dX12_init_189 : decode cX12_init 189 = .ok (.aload_n 0, 1) := by decide +kernel
theorem dX12_init_190 : decode cX12_init 190 = .ok (.bipush 6, 2) := by decide +kernel
theorem dX12_init_192 : decode cX12_init 192 = .ok (.newarray .int, 2) := by decide +kernel
theorem dX12_init_194 : decode cX12_init 194 = .ok (.putfield 77, 3) := by decide +kernel
theorem dX12_init_197 : decode cX12_init 197 = .ok (.aload_n 0, 1) := by decide +kernel
theorem dX12_init_198 : decode cX12_init 198 = .ok (.bipush 6, 2) := by decide +kernel
theorem dX12_init_200 : decode cX12_init 200 = .ok (.newarray .int, 2) := by decide +kernel
theorem dX12_init_202 : decode cX12_init 202 = .ok (.putfield 80, 3) := by decide +kernel
theorem dX12_init_205 : decode cX12_init 205 = .ok (.aload_n 0, 1) := by decide +kernel
theorem dX12_init_206 : decode cX12_init 206 = .ok (.sipush 20001, 3) := by decide +kernel
theorem dX12_init_209 : decode cX12_init 209 = .ok (.newarray .long, 2) := by decide +kernel
theorem dX12_init_211 : decode cX12_init 211 = .ok (.putfield 83, 3) := by decide +kernel
theorem dX12_init_214 : decode cX12_init 214 = .ok (.aload_n 0, 1) := by decide +kernel
theorem dX12_init_215 : decode cX12_init 215 = .ok (.bipush 6, 2) := by decide +kernel
theorem dX12_init_217 : decode cX12_init 217 = .ok (.newarray .int, 2) := by decide +kernel
theorem dX12_init_219 : decode cX12_init 219 = .ok (.putfield 87, 3) := by decide +kernel
theorem dX12_init_222 : decode cX12_init 222 = .ok (.aload_n 0, 1) := by decide +kernel
theorem dX12_init_223 : decode cX12_init 223 = .ok (.sipush 20000, 3) := by decide +kernel
theorem dX12_init_226 : decode cX12_init 226 = .ok (.newarray .int, 2) := by decide +kernel
theorem dX12_init_228 : decode cX12_init 228 = .ok (.putfield 90, 3) := by decide +kernel
theorem dX12_init_231 : decode cX12_init 231 = .ok (.aload_n 0, 1) := by decide +kernel
theorem dX12_init_232 : decode cX12_init 232 = .ok (.sipush 20000, 3) := by decide +kernel
theorem dX12_init_235 : decode cX12_init 235 = .ok (.newarray .int, 2) := by decide +kernel
theorem dX12_init_237 : decode cX12_init 237 = .ok (.putfield 93, 3) := by decide +kernel
theorem dX12_init_240 : decode cX12_init 240 = .ok (.aload_n 0, 1) := by decide +kernel
theorem dX12_init_241 : decode cX12_init 241 = .ok (.sipush 20000, 3) := by decide +kernel
theorem dX12_init_244 : decode cX12_init 244 = .ok (.newarray .int, 2) := by decide +kernel
theorem dX12_init_246 : decode cX12_init 246 = .ok (.putfield 96, 3) := by decide +kernel
theorem dX12_init_249 : decode cX12_init 249 = .ok (.aload_n 0, 1) := by decide +kernel
theorem dX12_init_250 : decode cX12_init 250 = .ok (.sipush 20000, 3) := by decide +kernel
theorem dX12_init_253 : decode cX12_init 253 = .ok (.newarray .int, 2) := by decide +kernel
theorem dX12_init_255 : decode cX12_init 255 = .ok (.putfield 99, 3) := by decide +kernel
theorem dX12_init_258 : decode cX12_init 258 = .ok (.aload_n 0, 1) := by decide +kernel
theorem dX12_init_259 : decode cX12_init 259 = .ok (.bipush 100, 2) := by decide +kernel
theorem dX12_init_261 : decode cX12_init 261 = .ok (.newarray .int, 2) := by decide +kernel
theorem dX12_init_263 : decode cX12_init 263 = .ok (.putfield 102, 3) := by decide +kernel
theorem dX12_init_266 : decode cX12_init 266 = .ok (.aload_n 0, 1) := by decide +kernel
theorem dX12_init_267 : decode cX12_init 267 = .ok (.sipush 20000, 3) := by decide +kernel
theorem dX12_init_270 : decode cX12_init 270 = .ok (.newarray .int, 2) := by decide +kernel
theorem dX12_init_272 : decode cX12_init 272 = .ok (.putfield 105, 3) := by decide +kernel
theorem dX12_init_275 : decode cX12_init 275 = .ok (.aload_n 0, 1) := by decide +kernel
theorem dX12_init_276 : decode cX12_init 276 = .ok (.bipush 8, 2) := by decide +kernel
theorem dX12_init_278 : decode cX12_init 278 = .ok (.newarray .int, 2) := by decide +kernel
theorem dX12_init_280 : decode cX12_init 280 = .ok (.putfield 108, 3) := by decide +kernel
theorem dX12_init_283 : decode cX12_init 283 = .ok (.aload_n 0, 1) := by decide +kernel
theorem dX12_init_284 : decode cX12_init 284 = .ok (.bipush 8, 2) := by decide +kernel
theorem dX12_init_286 : decode cX12_init 286 = .ok (.newarray .int, 2) := by decide +kernel
theorem dX12_init_288 : decode cX12_init 288 = .ok (.putfield 111, 3) := by decide +kernel
theorem dX12_init_291 : decode cX12_init 291 = .ok (.aload_n 0, 1) := by decide +kernel
theorem dX12_init_292 : decode cX12_init 292 = .ok (.bipush 8, 2) := by decide +kernel
theorem dX12_init_294 : decode cX12_init 294 = .ok (.newarray .int, 2) := by decide +kernel
theorem dX12_init_296 : decode cX12_init 296 = .ok (.putfield 114, 3) := by decide +kernel
theorem dX12_init_299 : decode cX12_init 299 = .ok (.aload_n 0, 1) := by decide +kernel
theorem dX12_init_300 : decode cX12_init 300 = .ok (.bipush 48, 2) := by decide +kernel
theorem dX12_init_302 : decode cX12_init 302 = .ok (.newarray .int, 2) := by decide +kernel
theorem dX12_init_304 : decode cX12_init 304 = .ok (.putfield 117, 3) := by decide +kernel
theorem dX12_init_307 : decode cX12_init 307 = .ok (.aload_n 0, 1) := by decide +kernel
theorem dX12_init_308 : decode cX12_init 308 = .ok (.bipush 8, 2) := by decide +kernel
theorem dX12_init_310 : decode cX12_init 310 = .ok (.newarray .int, 2) := by decide +kernel
theorem dX12_init_312 : decode cX12_init 312 = .ok (.putfield 120, 3) := by decide +kernel
theorem dX12_init_315 : decode cX12_init 315 = .ok (.aload_n 0, 1) := by decide +kernel
theorem dX12_init_316 : decode cX12_init 316 = .ok (.sipush 256, 3) := by decide +kernel
theorem dX12_init_319 : decode cX12_init 319 = .ok (.newarray .int, 2) := by decide +kernel
theorem dX12_init_321 : decode cX12_init 321 = .ok (.putfield 123, 3) := by decide +kernel
theorem dX12_init_324 : decode cX12_init 324 = .ok (.aload_n 0, 1) := by decide +kernel
theorem dX12_init_325 : decode cX12_init 325 = .ok (.bipush 6, 2) := by decide +kernel
theorem dX12_init_327 : decode cX12_init 327 = .ok (.newarray .int, 2) := by decide +kernel
theorem dX12_init_329 : decode cX12_init 329 = .ok (.putfield 126, 3) := by decide +kernel
theorem dX12_init_332 : decode cX12_init 332 = .ok (.aload_n 0, 1) := by decide +kernel
theorem dX12_init_333 : decode cX12_init 333 = .ok (.iconst 1, 1) := by decide +kernel
theorem dX12_init_334 : decode cX12_init 334 = .ok (.putfield 129, 3) := by decide +kernel
theorem dX12_init_337 : decode cX12_init 337 = .ok (.iconst 0, 1) := by decide +kernel
theorem dX12_init_338 : decode cX12_init 338 = .ok (.istore_n 1, 1) := by decide +kernel
theorem dX12_init_339 : decode cX12_init 339 = .ok (.iload_n 1, 1) := by decide +kernel
theorem dX12_init_340 : decode cX12_init 340 = .ok (.bipush 6, 2) := by decide +kernel
theorem dX12_init_342 : decode cX12_init 342 = .ok (.if_icmp .ge 17, 3) := by decide +kernel
theorem dX12_init_345 : decode cX12_init 345 = .ok (.aload_n 0, 1) := by decide +kernel
theorem dX12_init_346 : decode cX12_init 346 = .ok (.getfield 13, 3) := by decide +kernel
theorem dX12_init_349 : decode cX12_init 349 = .ok (.iload_n 1, 1) := by decide +kernel
theorem dX12_init_350 : decode cX12_init 350 = .ok (.bipush 99, 2) := by decide +kernel
theorem dX12_init_352 : decode cX12_init 352 = .ok (.iastore, 1) := by decide +kernel
theorem dX12_init_353 : decode cX12_init 353 = .ok (.iinc 1 1, 3) := by decide +kernel
theorem dX12_init_356 : decode cX12_init 356 = .ok (.goto (-17), 3) := by decide +kernel
theorem dX12_init_359 : decode cX12_init 359 = .ok (.return_, 1) := by decide +kernel
theorem dX12_in_0 : decode cX12_in 0 = .ok (.iload_n 0, 1) := by decide +kernel
theorem dX12_in_1 : decode cX12_in 1 = .ok (.iload_n 1, 1) := by decide +kernel
theorem dX12_in_2 : decode cX12_in 2 = .ok (.if_icmp .lt 12, 3) := by decide +kernel
theorem dX12_in_5 : decode cX12_in 5 = .ok (.iload_n 0, 1) := by decide +kernel
theorem dX12_in_6 : decode cX12_in 6 = .ok (.iload_n 2, 1) := by decide +kernel
theorem dX12_in_7 : decode cX12_in 7 = .ok (.if_icmp .gt 7, 3) := by decide +kernel
theorem dX12_in_10 : decode cX12_in 10 = .ok (.iconst 1, 1) := by decide +kernel
theorem dX12_in_11 : decode cX12_in 11 = .ok (.goto 4, 3) := by decide +kernel
theorem dX12_in_14 : decode cX12_in 14 = .ok (.iconst 0, 1) := by decide +kernel
theorem dX12_in_15 : decode cX12_in 15 = .ok (.ireturn, 1) := by decide +kernel
theorem dX12_min_0 : decode cX12_min 0 = .ok (.iload_n 0, 1) := by decide +kernel
theorem dX12_min_1 : decode cX12_min 1 = .ok (.iload_n 1, 1) := by decide +kernel
theorem dX12_min_2 : decode cX12_min 2 = .ok (.if_icmp .ge 7, 3) := by decide +kernel
theorem dX12_min_5 : decode cX12_min 5 = .ok (.iload_n 0, 1) := by decide +kernel
theorem dX12_min_6 : decode cX12_min 6 = .ok (.goto 4, 3) := by decide +kernel
theorem dX12_min_9 : decode cX12_min 9 = .ok (.iload_n 1, 1) := by decide +kernel
theorem dX12_min_10 : decode cX12_min 10 = .ok (.ireturn, 1) := by decide +kernel
theorem dX12_isVat_0 : decode cX12_isVat 0 = .ok (.iload_n 0, 1) := by decide +kernel
theorem dX12_isVat_1 : decode cX12_isVat 1 = .ok (.ifCond .lt 13, 3) := by decide +kernel
theorem dX12_isVat_4 : decode cX12_isVat 4 = .ok (.iload_n 0, 1) := by decide +kernel
theorem dX12_isVat_5 : decode cX12_isVat 5 = .ok (.bipush 6, 2) := by decide +kernel
theorem dX12_isVat_7 : decode cX12_isVat 7 = .ok (.if_icmp .ge 7, 3) := by decide +kernel
theorem dX12_isVat_10 : decode cX12_isVat 10 = .ok (.iconst 1, 1) := by decide +kernel
