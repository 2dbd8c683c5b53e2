theorem dX0_init_0 : decode cX0_init 0 = .ok (.aload_n 0, 1) := by decide +kernel
theorem dX0_init_1 : decode cX0_init 1 = .ok (.invokespecial 3, 3) := by decide +kernel
theorem dX0_init_4 : decode cX0_init 4 = .ok (.aload_n 0, 1) := by decide +kernel
theorem dX0_init_5 : decode cX0_init 5 = .ok (.bipush 6, 2) := by decide +kernel
theorem dX0_init_7 : decode cX0_init 7 = .ok (.newarray .int, 2) := by decide +kernel
theorem dX0_init_9 : decode cX0_init 9 = .ok (.putfield 9, 3) := by decide +kernel
theorem dX0_init_12 : decode cX0_init 12 = .ok (.aload_n 0, 1) := by decide +kernel
theorem dX0_init_13 : decode cX0_init 13 = .ok (.bipush 6, 2) := by decide +kernel
theorem dX0_init_15 : decode cX0_init 15 = .ok (.newarray .int, 2) := by decide +kernel
theorem dX0_init_17 : decode cX0_init 17 = .ok (.putfield 15, 3) := by decide +kernel
theorem dX0_init_20 : decode cX0_init 20 = .ok (.aload_n 0, 1) := by decide +kernel
theorem dX0_init_21 : decode cX0_init 21 = .ok (.bipush 6, 2) := by decide +kernel
theorem dX0_init_23 : decode cX0_init 23 = .ok (.newarray .int, 2) := by decide +kernel
theorem dX0_init_25 : decode cX0_init 25 = .ok (.putfield 18, 3) := by decide +kernel
theorem dX0_init_28 : decode cX0_init 28 = .ok (.aload_n 0, 1) := by decide +kernel
theorem dX0_init_29 : decode cX0_init 29 = .ok (.aload_n 1, 1) := by decide +kernel
theorem dX0_init_30 : decode cX0_init 30 = .ok (.putfield 21, 3) := by decide +kernel
theorem dX0_init_33 : decode cX0_init 33 = .ok (.return_, 1) := by decide +kernel
theorem dX0_start_0 : decode cX0_start 0 = .ok (.aload_n 1, 1) := by decide +kernel
theorem dX0_start_1 : decode cX0_start 1 = .ok (.aload_n 0, 1) := by decide +kernel
theorem dX0_start_2 : decode cX0_start 2 = .ok (.getfield 9, 3) := by decide +kernel
theorem dX0_start_5 : decode cX0_start 5 = .ok (.invokestatic 25, 3) := by decide +kernel
theorem dX0_start_8 : decode cX0_start 8 = .ok (.aload_n 1, 1) := by decide +kernel
theorem dX0_start_9 : decode cX0_start 9 = .ok (.aload_n 0, 1) := by decide +kernel
theorem dX0_start_10 : decode cX0_start 10 = .ok (.getfield 15, 3) := by decide +kernel
theorem dX0_start_13 : decode cX0_start 13 = .ok (.invokestatic 25, 3) := by decide +kernel
theorem dX0_start_16 : decode cX0_start 16 = .ok (.aload_n 0, 1) := by decide +kernel
theorem dX0_start_17 : decode cX0_start 17 = .ok (.iconst 0, 1) := by decide +kernel
theorem dX0_start_18 : decode cX0_start 18 = .ok (.putfield 29, 3) := by decide +kernel
theorem dX0_start_21 : decode cX0_start 21 = .ok (.aload_n 0, 1) := by decide +kernel
theorem dX0_start_22 : decode cX0_start 22 = .ok (.iconst 0, 1) := by decide +kernel
theorem dX0_start_23 : decode cX0_start 23 = .ok (.putfield 33, 3) := by decide +kernel
theorem dX0_start_26 : decode cX0_start 26 = .ok (.aload_n 0, 1) := by decide +kernel
theorem dX0_start_27 : decode cX0_start 27 = .ok (.iload_n 2, 1) := by decide +kernel
theorem dX0_start_28 : decode cX0_start 28 = .ok (.putfield 36, 3) := by decide +kernel
theorem dX0_start_31 : decode cX0_start 31 = .ok (.aload_n 0, 1) := by decide +kernel
theorem dX0_start_32 : decode cX0_start 32 = .ok (.iconst 0, 1) := by decide +kernel
theorem dX0_start_33 : decode cX0_start 33 = .ok (.putfield 39, 3) := by decide +kernel
theorem dX0_start_36 : decode cX0_start 36 = .ok (.aload_n 0, 1) := by decide +kernel
theorem dX0_start_37 : decode cX0_start 37 = .ok (.iconst 0, 1) := by decide +kernel
theorem dX0_start_38 : decode cX0_start 38 = .ok (.putfield 42, 3) := by decide +kernel
theorem dX0_start_41 : decode cX0_start 41 = .ok (.aload_n 0, 1) := by decide +kernel
theorem dX0_start_42 : decode cX0_start 42 = .ok (.iconst 0, 1) := by decide +kernel
theorem dX0_start_43 : decode cX0_start 43 = .ok (.putfield 45, 3) := by decide +kernel
theorem dX0_start_46 : decode cX0_start 46 = .ok (.return_, 1) := by decide +kernel
theorem dX0_copy_0 : decode cX0_copy 0 = .ok (.aload_n 1, 1) := by decide +kernel
theorem dX0_copy_1 : decode cX0_copy 1 = .ok (.getfield 9, 3) := by decide +kernel
theorem dX0_copy_4 : decode cX0_copy 4 = .ok (.aload_n 0, 1) := by decide +kernel
theorem dX0_copy_5 : decode cX0_copy 5 = .ok (.getfield 9, 3) := by decide +kernel
theorem dX0_copy_8 : decode cX0_copy 8 = .ok (.invokestatic 25, 3) := by decide +kernel
theorem dX0_copy_11 : decode cX0_copy 11 = .ok (.aload_n 1, 1) := by decide +kernel
theorem dX0_copy_12 : decode cX0_copy 12 = .ok (.getfield 15, 3) := by decide +kernel
theorem dX0_copy_15 : decode cX0_copy 15 = .ok (.aload_n 0, 1) := by decide +kernel
theorem dX0_copy_16 : decode cX0_copy 16 = .ok (.getfield 15, 3) := by decide +kernel
theorem dX0_copy_19 : decode cX0_copy 19 = .ok (.invokestatic 25, 3) := by decide +kernel
theorem dX0_copy_22 : decode cX0_copy 22 = .ok (.aload_n 0, 1) := by decide +kernel
theorem dX0_copy_23 : decode cX0_copy 23 = .ok (.aload_n 1, 1) := by decide +kernel
theorem dX0_copy_24 : decode cX0_copy 24 = .ok (.getfield 29, 3) := by decide +kernel
theorem dX0_copy_27 : decode cX0_copy 27 = .ok (.putfield 29, 3) := by decide +kernel
theorem dX0_copy_30 : decode cX0_copy 30 = .ok (.aload_n 0, 1) := by decide +kernel
theorem dX0_copy_31 : decode cX0_copy 31 = .ok (.aload_n 1, 1) := by decide +kernel
theorem dX0_copy_32 : decode cX0_copy 32 = .ok (.getfield 33, 3) := by decide +kernel
theorem dX0_copy_35 : decode cX0_copy 35 = .ok (.putfield 33, 3) := by decide +kernel
theorem dX0_copy_38 : decode cX0_copy 38 = .ok (.aload_n 0, 1) := by decide +kernel
theorem dX0_copy_39 : decode cX0_copy 39 = .ok (.aload_n 1, 1) := by decide +kernel
theorem dX0_copy_40 : decode cX0_copy 40 = .ok (.getfield 36, 3) := by decide +kernel
theorem dX0_copy_43 : decode cX0_copy 43 = .ok (.putfield 36, 3) := by decide +kernel
theorem dX0_copy_46 : decode cX0_copy 46 = .ok (.aload_n 0, 1) := by decide +kernel
theorem dX0_copy_47 : decode cX0_copy 47 = .ok (.aload_n 1, 1) := by decide +kernel
theorem dX0_copy_48 : decode cX0_copy 48 = .ok (.getfield 39, 3) := by decide +kernel
theorem dX0_copy_51 : decode cX0_copy 51 = .ok (.putfield 39, 3) := by decide +kernel
theorem dX0_copy_54 : decode cX0_copy 54 = .ok (.aload_n 0, 1) := by decide +kernel
theorem dX0_copy_55 : decode cX0_copy 55 = .ok (.aload_n 1, 1) := by decide +kernel
theorem dX0_copy_56 : decode cX0_copy 56 = .ok (.getfield 42, 3) := by decide +kernel
theorem dX0_copy_59 : decode cX0_copy 59 = .ok (.putfield 42, 3) := by decide +kernel
theorem dX0_copy_62 : decode cX0_copy 62 = .ok (.aload_n 0, 1) := by decide +kernel
theorem dX0_copy_63 : decode cX0_copy 63 = .ok (.aload_n 1, 1) := by decide +kernel
theorem dX0_copy_64 : decode cX0_copy 64 = .ok (.getfield 45, 3) := by decide +kernel
theorem dX0_copy_67 : decode cX0_copy 67 = .ok (.putfield 45, 3) := by decide +kernel
theorem dX0_copy_70 : decode cX0_copy 70 = .ok (.return_, 1) := by decide +kernel
theorem dX0_isOver_0 : decode cX0_isOver 0 = .ok (.aload_n 0, 1) := by decide +kernel
theorem dX0_isOver_1 : decode cX0_isOver 1 = .ok (.getfield 42, 3) := by decide +kernel
theorem dX0_isOver_4 : decode cX0_isOver 4 = .ok (.aload_n 1, 1) := by decide +kernel
theorem dX0_isOver_5 : decode cX0_isOver 5 = .ok (.getfield 48, 3) := by decide +kernel
theorem dX0_isOver_8 : decode cX0_isOver 8 = .ok (.if_icmp .lt 7, 3) := by decide +kernel
theorem dX0_isOver_11 : decode cX0_isOver 11 = .ok (.iconst 1, 1) := by decide +kernel
theorem dX0_isOver_12 : decode cX0_isOver 12 = .ok (.goto 4, 3) := by decide +kernel
theorem dX0_isOver_15 : decode cX0_isOver 15 = .ok (.iconst 0, 1) := by decide +kernel
theorem dX0_isOver_16 : decode cX0_isOver 16 = .ok (.ireturn, 1) := by decide +kernel
theorem dX0_standsWith_0 : decode cX0_standsWith 0 = .ok (.aload_n 0, 1) := by decide +kernel
theorem dX0_standsWith_1 : decode cX0_standsWith 1 = .ok (.getfield 42, 3) := by decide +kernel
theorem dX0_standsWith_4 : decode cX0_standsWith 4 = .ok (.aload_n 1, 1) := by decide +kernel
theorem dX0_standsWith_5 : decode cX0_standsWith 5 = .ok (.getfield 42, 3) := by decide +kernel
theorem dX0_standsWith_8 : decode cX0_standsWith 8 = .ok (.if_icmp .ne 15, 3) := by decide +kernel
theorem dX0_standsWith_11 : decode cX0_standsWith 11 = .ok (.aload_n 0, 1) := by decide +kernel
theorem dX0_standsWith_12 : decode cX0_standsWith 12 = .ok (.aload_n 1, 1) := by decide +kernel
theorem dX0_standsWith_13 : decode cX0_standsWith 13 = .ok (.invokevirtual 53, 3) := by decide +kernel
theorem dX0_standsWith_16 : decode cX0_standsWith 16 = .ok (.ifCond .eq 7, 3) := by decide +kernel
theorem dX0_standsWith_19 : decode cX0_standsWith 19 = .ok (.iconst 1, 1) := by decide +kernel
theorem dX0_standsWith_20 : decode cX0_standsWith 20 = .ok (.goto 4, 3) := by decide +kernel
theorem dX0_standsWith_23 : decode cX0_standsWith 23 = .ok (.iconst 0, 1) := by decide +kernel
theorem dX0_standsWith_24 : decode cX0_standsWith 24 = .ok (.ireturn, 1) := by decide +kernel
theorem dX0_hasMeasuresOf_0 : decode cX0_hasMeasuresOf 0 = .ok (.iconst 0, 1) := by decide +kernel
theorem dX0_hasMeasuresOf_1 : decode cX0_hasMeasuresOf 1 = .ok (.istore_n 2, 1) := by decide +kernel
theorem dX0_hasMeasuresOf_2 : decode cX0_hasMeasuresOf 2 = .ok (.iload_n 2, 1) := by decide +kernel
theorem dX0_hasMeasuresOf_3 : decode cX0_hasMeasuresOf 3 = .ok (.bipush 6, 2) := by decide +kernel
theorem dX0_hasMeasuresOf_5 : decode cX0_hasMeasuresOf 5 = .ok (.if_icmp .ge 26, 3) := by decide +kernel
theorem dX0_hasMeasuresOf_8 : decode cX0_hasMeasuresOf 8 = .ok (.aload_n 0, 1) := by decide +kernel
theorem dX0_hasMeasuresOf_9 : decode cX0_hasMeasuresOf 9 = .ok (.getfield 15, 3) := by decide +kernel
theorem dX0_hasMeasuresOf_12 : decode cX0_hasMeasuresOf 12 = .ok (.iload_n 2, 1) := by decide +kernel
theorem dX0_hasMeasuresOf_13 : decode cX0_hasMeasuresOf 13 = .ok (.iaload, 1) := by decide +kernel
theorem dX0_hasMeasuresOf_14 : decode cX0_hasMeasuresOf 14 = .ok (.aload_n 1, 1) := by decide +kernel
theorem dX0_hasMeasuresOf_15 : decode cX0_hasMeasuresOf 15 = .ok (.getfield 15, 3) := by decide +kernel
theorem dX0_hasMeasuresOf_18 : decode cX0_hasMeasuresOf 18 = .ok (.iload_n 2, 1) := by decide +kernel
theorem dX0_hasMeasuresOf_19 : decode cX0_hasMeasuresOf 19 = .ok (.iaload, 1) := by decide +kernel
theorem dX0_hasMeasuresOf_20 : decode cX0_hasMeasuresOf 20 = .ok (.if_icmp .eq 5, 3) := by decide +kernel
theorem dX0_hasMeasuresOf_23 : decode cX0_hasMeasuresOf 23 = .ok (.iconst 0, 1) := by decide +kernel
theorem dX0_hasMeasuresOf_24 : decode cX0_hasMeasuresOf 24 = .ok (.ireturn, 1) := by decide +kernel
theorem dX0_hasMeasuresOf_25 : decode cX0_hasMeasuresOf 25 = .ok (.iinc 2 1, 3) := by decide +kernel
theorem dX0_hasMeasuresOf_28 : decode cX0_hasMeasuresOf 28 = .ok (.goto (-26), 3) := by decide +kernel
theorem dX0_hasMeasuresOf_31 : decode cX0_hasMeasuresOf 31 = .ok (.iconst 1, 1) := by decide +kernel
theorem dX0_hasMeasuresOf_32 : decode cX0_hasMeasuresOf 32 = .ok (.ireturn, 1) := by decide +kernel
theorem dX0_go_0 : decode cX0_go 0 = .ok (.bipush 8, 2) := by decide +kernel
theorem dX0_go_2 : decode cX0_go 2 = .ok (.istore_n 3, 1) := by decide +kernel
theorem dX0_go_3 : decode cX0_go 3 = .ok (.aload_n 0, 1) := by decide +kernel
theorem dX0_go_4 : decode cX0_go 4 = .ok (.invokevirtual 57, 3) := by decide +kernel
theorem dX0_go_7 : decode cX0_go 7 = .ok (.iconst 0, 1) := by decide +kernel
theorem dX0_go_8 : decode cX0_go 8 = .ok (.istore 4, 2) := by decide +kernel
theorem dX0_go_10 : decode cX0_go 10 = .ok (.iload 4, 2) := by decide +kernel
theorem dX0_go_12 : decode cX0_go 12 = .ok (.iload_n 2, 1) := by decide +kernel
theorem dX0_go_13 : decode cX0_go 13 = .ok (.if_icmp .gt 104, 3) := by decide +kernel
theorem dX0_go_16 : decode cX0_go 16 = .ok (.aload_n 0, 1) := by decide +kernel
theorem dX0_go_17 : decode cX0_go 17 = .ok (.getfield 45, 3) := by decide +kernel
theorem dX0_go_20 : decode cX0_go 20 = .ok (.ifCond .ne 97, 3) := by decide +kernel
theorem dX0_go_23 : decode cX0_go 23 = .ok (.aload_n 0, 1) := by decide +kernel
theorem dX0_go_24 : decode cX0_go 24 = .ok (.getfield 42, 3) := by decide +kernel
theorem dX0_go_27 : decode cX0_go 27 = .ok (.aload_n 1, 1) := by decide +kernel
theorem dX0_go_28 : decode cX0_go 28 = .ok (.getfield 48, 3) := by decide +kernel
theorem dX0_go_31 : decode cX0_go 31 = .ok (.if_icmp .lt 11, 3) := by decide +kernel
theorem dX0_go_34 : decode cX0_go 34 = .ok (.aload_n 0, 1) := by decide +kernel
theorem dX0_go_35 : decode cX0_go 35 = .ok (.iconst 1, 1) := by decide +kernel
theorem dX0_go_36 : decode cX0_go 36 = .ok (.putfield 45, 3) := by decide +kernel
theorem dX0_go_39 : decode cX0_go 39 = .ok (.goto 72, 3) := by decide +kernel
theorem dX0_go_42 : decode cX0_go 42 = .ok (.aload_n 0, 1) := by decide +kernel
theorem dX0_go_43 : decode cX0_go 43 = .ok (.getfield 39, 3) := by decide +kernel
theorem dX0_go_46 : decode cX0_go 46 = .ok (.iload_n 2, 1) := by decide +kernel
theorem dX0_go_47 : decode cX0_go 47 = .ok (.if_icmp .lt 11, 3) := by decide +kernel
theorem dX0_go_50 : decode cX0_go 50 = .ok (.aload_n 0, 1) := by decide +kernel
theorem dX0_go_51 : decode cX0_go 51 = .ok (.iconst 3, 1) := by decide +kernel
theorem dX0_go_52 : decode cX0_go 52 = .ok (.putfield 45, 3) := by decide +kernel
theorem dX0_go_55 : decode cX0_go 55 = .ok (.goto 56, 3) := by decide +kernel
theorem dX0_go_58 : decode cX0_go 58 = .ok (.aload_n 0, 1) := by decide +kernel
theorem dX0_go_59 : decode cX0_go 59 = .ok (.aload_n 1, 1) := by decide +kernel
theorem dX0_go_60 : decode cX0_go 60 = .ok (.iconst 1, 1) := by decide +kernel
theorem dX0_go_61 : decode cX0_go 61 = .ok (.invokevirtual 60, 3) := by decide +kernel
theorem dX0_go_64 : decode cX0_go 64 = .ok (.aload_n 0, 1) := by decide +kernel
theorem dX0_go_65 : decode cX0_go 65 = .ok (.getfield 42, 3) := by decide +kernel
theorem dX0_go_68 : decode cX0_go 68 = .ok (.aload_n 0, 1) := by decide +kernel
theorem dX0_go_69 : decode cX0_go 69 = .ok (.getfield 64, 3) := by decide +kernel
theorem dX0_go_72 : decode cX0_go 72 = .ok (.if_icmp .ne 18, 3) := by decide +kernel
theorem dX0_go_75 : decode cX0_go 75 = .ok (.aload_n 0, 1) := by decide +kernel
theorem dX0_go_76 : decode cX0_go 76 = .ok (.invokevirtual 67, 3) := by decide +kernel
theorem dX0_go_79 : decode cX0_go 79 = .ok (.ifCond .eq 11, 3) := by decide +kernel
theorem dX0_go_82 : decode cX0_go 82 = .ok (.aload_n 0, 1) := by decide +kernel
theorem dX0_go_83 : decode cX0_go 83 = .ok (.iload_n 2, 1) := by decide +kernel
theorem dX0_go_84 : decode cX0_go 84 = .ok (.invokevirtual 71, 3) := by decide +kernel
theorem dX0_go_87 : decode cX0_go 87 = .ok (.goto 24, 3) := by decide +kernel
theorem dX0_go_90 : decode cX0_go 90 = .ok (.aload_n 0, 1) := by decide +kernel
theorem dX0_go_91 : decode cX0_go 91 = .ok (.getfield 39, 3) := by decide +kernel
theorem dX0_go_94 : decode cX0_go 94 = .ok (.aload_n 0, 1) := by decide +kernel
theorem dX0_go_95 : decode cX0_go 95 = .ok (.getfield 75, 3) := by decide +kernel
theorem dX0_go_98 : decode cX0_go 98 = .ok (.isub, 1) := by decide +kernel
theorem dX0_go_99 : decode cX0_go 99 = .ok (.iload_n 3, 1) := by decide +kernel
theorem dX0_go_100 : decode cX0_go 100 = .ok (.if_icmp .lt 11, 3) := by decide +kernel
theorem dX0_go_103 : decode cX0_go 103 = .ok (.aload_n 0, 1) := by decide +kernel
theorem dX0_go_104 : decode cX0_go 104 = .ok (.invokevirtual 57, 3) := by decide +kernel
theorem dX0_go_107 : decode cX0_go 107 = .ok (.iload_n 3, 1) := by decide +kernel
theorem dX0_go_108 : decode cX0_go 108 = .ok (.iconst 2, 1) := by decide +kernel
theorem dX0_go_109 : decode cX0_go 109 = .ok (.imul, 1) := by decide +kernel
theorem dX0_go_110 : decode cX0_go 110 = .ok (.istore_n 3, 1) := by decide +kernel
theorem dX0_go_111 : decode cX0_go 111 = .ok (.iinc 4 1, 3) := by decide +kernel
theorem dX0_go_114 : decode cX0_go 114 = .ok (.goto (-104), 3) := by decide +kernel
theorem dX0_go_117 : decode cX0_go 117 = .ok (.return_, 1) := by decide +kernel
theorem dX0_mark_0 : decode cX0_mark 0 = .ok (.aload_n 0, 1) := by decide +kernel
theorem dX0_mark_1 : decode cX0_mark 1 = .ok (.getfield 15, 3) := by decide +kernel
theorem dX0_mark_4 : decode cX0_mark 4 = .ok (.aload_n 0, 1) := by decide +kernel
theorem dX0_mark_5 : decode cX0_mark 5 = .ok (.getfield 18, 3) := by decide +kernel
theorem dX0_mark_8 : decode cX0_mark 8 = .ok (.invokestatic 25, 3) := by decide +kernel
theorem dX0_mark_11 : decode cX0_mark 11 = .ok (.aload_n 0, 1) := by decide +kernel
theorem dX0_mark_12 : decode cX0_mark 12 = .ok (.aload_n 0, 1) := by decide +kernel
theorem dX0_mark_13 : decode cX0_mark 13 = .ok (.getfield 42, 3) := by decide +kernel
theorem dX0_mark_16 : decode cX0_mark 16 = .ok (.putfield 64, 3) := by decide +kernel
theorem dX0_mark_19 : decode cX0_mark 19 = .ok (.aload_n 0, 1) := by decide +kernel
theorem dX0_mark_20 : decode cX0_mark 20 = .ok (.aload_n 0, 1) := by decide +kernel
theorem dX0_mark_21 : decode cX0_mark 21 = .ok (.getfield 39, 3) := by decide +kernel
theorem dX0_mark_24 : decode cX0_mark 24 = .ok (.putfield 75, 3) := by decide +kernel
theorem dX0_mark_27 : decode cX0_mark 27 = .ok (.aload_n 0, 1) := by decide +kernel
theorem dX0_mark_28 : decode cX0_mark 28 = .ok (.aload_n 0, 1) := by decide +kernel
theorem dX0_mark_29 : decode cX0_mark 29 = .ok (.getfield 29, 3) := by decide +kernel
theorem dX0_mark_32 : decode cX0_mark 32 = .ok (.putfield 78, 3) := by decide +kernel
theorem dX0_mark_35 : decode cX0_mark 35 = .ok (.aload_n 0, 1) := by decide +kernel
theorem dX0_mark_36 : decode cX0_mark 36 = .ok (.aload_n 0, 1) := by decide +kernel
theorem dX0_mark_37 : decode cX0_mark 37 = .ok (.getfield 33, 3) := by decide +kernel
theorem dX0_mark_40 : decode cX0_mark 40 = .ok (.putfield 81, 3) := by decide +kernel
theorem dX0_mark_43 : decode cX0_mark 43 = .ok (.aload_n 0, 1) := by decide +kernel
theorem dX0_mark_44 : decode cX0_mark 44 = .ok (.aload_n 0, 1) := by decide +kernel
theorem dX0_mark_45 : decode cX0_mark 45 = .ok (.getfield 36, 3) := by decide +kernel
theorem dX0_mark_48 : decode cX0_mark 48 = .ok (.putfield 84, 3) := by decide +kernel
theorem dX0_mark_51 : decode cX0_mark 51 = .ok (.return_, 1) := by decide +kernel
theorem dX0_isAtMark_0 : decode cX0_isAtMark 0 = .ok (.iconst 0, 1) := by decide +kernel
theorem dX0_isAtMark_1 : decode cX0_isAtMark 1 = .ok (.istore_n 1, 1) := by decide +kernel
theorem dX0_isAtMark_2 : decode cX0_isAtMark 2 = .ok (.iload_n 1, 1) := by decide +kernel
theorem dX0_isAtMark_3 : decode cX0_isAtMark 3 = .ok (.bipush 6, 2) := by decide +kernel
theorem dX0_isAtMark_5 : decode cX0_isAtMark 5 = .ok (.if_icmp .ge 26, 3) := by decide +kernel
theorem dX0_isAtMark_8 : decode cX0_isAtMark 8 = .ok (.aload_n 0, 1) := by decide +kernel
theorem dX0_isAtMark_9 : decode cX0_isAtMark 9 = .ok (.getfield 15, 3) := by decide +kernel
theorem dX0_isAtMark_12 : decode cX0_isAtMark 12 = .ok (.iload_n 1, 1) := by decide +kernel
theorem dX0_isAtMark_13 : decode cX0_isAtMark 13 = .ok (.iaload, 1) := by decide +kernel
theorem dX0_isAtMark_14 : decode cX0_isAtMark 14 = .ok (.aload_n 0, 1) := by decide +kernel
theorem dX0_isAtMark_15 : decode cX0_isAtMark 15 = .ok (.getfield 18, 3) := by decide +kernel
theorem dX0_isAtMark_18 : decode cX0_isAtMark 18 = .ok (.iload_n 1, 1) := by decide +kernel
theorem dX0_isAtMark_19 : decode cX0_isAtMark 19 = .ok (.iaload, 1) := by decide +kernel
theorem dX0_isAtMark_20 : decode cX0_isAtMark 20 = .ok (.if_icmp .eq 5, 3) := by decide +kernel
theorem dX0_isAtMark_23 : decode cX0_isAtMark 23 = .ok (.iconst 0, 1) := by decide +kernel
theorem dX0_isAtMark_24 : decode cX0_isAtMark 24 = .ok (.ireturn, 1) := by decide +kernel
theorem dX0_isAtMark_25 : decode cX0_isAtMark 25 = .ok (.iinc 1 1, 3) := by decide +kernel
theorem dX0_isAtMark_28 : decode cX0_isAtMark 28 = .ok (.goto (-26), 3) := by decide +kernel
theorem dX0_isAtMark_31 : decode cX0_isAtMark 31 = .ok (.iconst 1, 1) := by decide +kernel
theorem dX0_isAtMark_32 : decode cX0_isAtMark 32 = .ok (.ireturn, 1) := by decide +kernel
theorem dX0_leap_0 : decode cX0_leap 0 = .ok (.aload_n 0, 1) := by decide +kernel
theorem dX0_leap_1 : decode cX0_leap 1 = .ok (.getfield 39, 3) := by decide +kernel
theorem dX0_leap_4 : decode cX0_leap 4 = .ok (.aload_n 0, 1) := by decide +kernel
theorem dX0_leap_5 : decode cX0_leap 5 = .ok (.getfield 75, 3) := by decide +kernel
theorem dX0_leap_8 : decode cX0_leap 8 = .ok (.isub, 1) := by decide +kernel
theorem dX0_leap_9 : decode cX0_leap 9 = .ok (.istore_n 2, 1) := by decide +kernel
theorem dX0_leap_10 : decode cX0_leap 10 = .ok (.iload_n 2, 1) := by decide +kernel
theorem dX0_leap_11 : decode cX0_leap 11 = .ok (.ifCond .le 14, 3) := by decide +kernel
theorem dX0_leap_14 : decode cX0_leap 14 = .ok (.iload_n 1, 1) := by decide +kernel
theorem dX0_leap_15 : decode cX0_leap 15 = .ok (.aload_n 0, 1) := by decide +kernel
theorem dX0_leap_16 : decode cX0_leap 16 = .ok (.getfield 39, 3) := by decide +kernel
theorem dX0_leap_19 : decode cX0_leap 19 = .ok (.isub, 1) := by decide +kernel
theorem dX0_leap_20 : decode cX0_leap 20 = .ok (.iload_n 2, 1) := by decide +kernel
theorem dX0_leap_21 : decode cX0_leap 21 = .ok (.idiv, 1) := by decide +kernel
theorem dX0_leap_22 : decode cX0_leap 22 = .ok (.goto 4, 3) := by decide +kernel
theorem dX0_leap_25 : decode cX0_leap 25 = .ok (.iconst 0, 1) := by decide +kernel
theorem dX0_leap_26 : decode cX0_leap 26 = .ok (.istore_n 3, 1) := by decide +kernel
theorem dX0_leap_27 : decode cX0_leap 27 = .ok (.aload_n 0, 1) := by decide +kernel
theorem dX0_leap_28 : decode cX0_leap 28 = .ok (.getfield 33, 3) := by decide +kernel
theorem dX0_leap_31 : decode cX0_leap 31 = .ok (.aload_n 0, 1) := by decide +kernel
theorem dX0_leap_32 : decode cX0_leap 32 = .ok (.getfield 81, 3) := by decide +kernel
theorem dX0_leap_35 : decode cX0_leap 35 = .ok (.isub, 1) := by decide +kernel
theorem dX0_leap_36 : decode cX0_leap 36 = .ok (.istore 4, 2) := by decide +kernel
theorem dX0_leap_38 : decode cX0_leap 38 = .ok (.iconst 1, 1) := by decide +kernel
theorem dX0_leap_39 : decode cX0_leap 39 = .ok (.istore 5, 2) := by decide +kernel
theorem dX0_leap_41 : decode cX0_leap 41 = .ok (.iconst 0, 1) := by decide +kernel
theorem dX0_leap_42 : decode cX0_leap 42 = .ok (.istore 6, 2) := by decide +kernel
theorem dX0_leap_44 : decode cX0_leap 44 = .ok (.iload 6, 2) := by decide +kernel
theorem dX0_leap_46 : decode cX0_leap 46 = .ok (.iload 4, 2) := by decide +kernel
theorem dX0_leap_48 : decode cX0_leap 48 = .ok (.if_icmp .ge 20, 3) := by decide +kernel
theorem dX0_leap_51 : decode cX0_leap 51 = .ok (.bipush 7, 2) := by decide +kernel
theorem dX0_leap_53 : decode cX0_leap 53 = .ok (.iload 5, 2) := by decide +kernel
theorem dX0_leap_55 : decode cX0_leap 55 = .ok (.imul, 1) := by decide +kernel
theorem dX0_leap_56 : decode cX0_leap 56 = .ok (.sipush 1009, 3) := by decide +kernel
theorem dX0_leap_59 : decode cX0_leap 59 = .ok (.irem, 1) := by decide +kernel
theorem dX0_leap_60 : decode cX0_leap 60 = .ok (.istore 5, 2) := by decide +kernel
theorem dX0_leap_62 : decode cX0_leap 62 = .ok (.iinc 6 1, 3) := by decide +kernel
theorem dX0_leap_65 : decode cX0_leap 65 = .ok (.goto (-21), 3) := by decide +kernel
theorem dX0_leap_68 : decode cX0_leap 68 = .ok (.aload_n 0, 1) := by decide +kernel
theorem dX0_leap_69 : decode cX0_leap 69 = .ok (.getfield 36, 3) := by decide +kernel
theorem dX0_leap_72 : decode cX0_leap 72 = .ok (.iload 5, 2) := by decide +kernel
theorem dX0_leap_74 : decode cX0_leap 74 = .ok (.aload_n 0, 1) := by decide +kernel
theorem dX0_leap_75 : decode cX0_leap 75 = .ok (.getfield 84, 3) := by decide +kernel
theorem dX0_leap_78 : decode cX0_leap 78 = .ok (.imul, 1) := by decide +kernel
theorem dX0_leap_79 : decode cX0_leap 79 = .ok (.isub, 1) := by decide +kernel
theorem dX0_leap_80 : decode cX0_leap 80 = .ok (.sipush 1009, 3) := by decide +kernel
theorem dX0_leap_83 : decode cX0_leap 83 = .ok (.invokestatic 87, 3) := by decide +kernel
theorem dX0_leap_86 : decode cX0_leap 86 = .ok (.istore 6, 2) := by decide +kernel
theorem dX0_leap_88 : decode cX0_leap 88 = .ok (.iconst 0, 1) := by decide +kernel
theorem dX0_leap_89 : decode cX0_leap 89 = .ok (.istore 7, 2) := by decide +kernel
theorem dX0_leap_91 : decode cX0_leap 91 = .ok (.iload 7, 2) := by decide +kernel
theorem dX0_leap_93 : decode cX0_leap 93 = .ok (.iload_n 3, 1) := by decide +kernel
theorem dX0_leap_94 : decode cX0_leap 94 = .ok (.if_icmp .ge 27, 3) := by decide +kernel
theorem dX0_leap_97 : decode cX0_leap 97 = .ok (.aload_n 0, 1) := by decide +kernel
theorem dX0_leap_98 : decode cX0_leap 98 = .ok (.iload 5, 2) := by decide +kernel
theorem dX0_leap_100 : decode cX0_leap 100 = .ok (.aload_n 0, 1) := by decide +kernel
theorem dX0_leap_101 : decode cX0_leap 101 = .ok (.getfield 36, 3) := by decide +kernel
theorem dX0_leap_104 : decode cX0_leap 104 = .ok (.imul, 1) := by decide +kernel
theorem dX0_leap_105 : decode cX0_leap 105 = .ok (.iload 6, 2) := by decide +kernel
theorem dX0_leap_107 : decode cX0_leap 107 = .ok (.iadd, 1) := by decide +kernel
theorem dX0_leap_108 : decode cX0_leap 108 = .ok (.sipush 1009, 3) := by decide +kernel
theorem dX0_leap_111 : decode cX0_leap 111 = .ok (.irem, 1) := by decide +kernel
theorem dX0_leap_112 : decode cX0_leap 112 = .ok (.putfield 36, 3) := by decide +kernel
theorem dX0_leap_115 : decode cX0_leap 115 = .ok (.iinc 7 1, 3) := by decide +kernel
theorem dX0_leap_118 : decode cX0_leap 118 = .ok (.goto (-27), 3) := by decide +kernel
theorem dX0_leap_121 : decode cX0_leap 121 = .ok (.aload_n 0, 1) := by decide +kernel
theorem dX0_leap_122 : decode cX0_leap 122 = .ok (.dup, 1) := by decide +kernel
theorem dX0_leap_123 : decode cX0_leap 123 = .ok (.getfield 29, 3) := by decide +kernel
theorem dX0_leap_126 : decode cX0_leap 126 = .ok (.iload_n 3, 1) := by decide +kernel
theorem dX0_leap_127 : decode cX0_leap 127 = .ok (.aload_n 0, 1) := by decide +kernel
theorem dX0_leap_128 : decode cX0_leap 128 = .ok (.getfield 29, 3) := by decide +kernel
theorem dX0_leap_131 : decode cX0_leap 131 = .ok (.aload_n 0, 1) := by decide +kernel
theorem dX0_leap_132 : decode cX0_leap 132 = .ok (.getfield 78, 3) := by decide +kernel
theorem dX0_leap_135 : decode cX0_leap 135 = .ok (.isub, 1) := by decide +kernel
theorem dX0_leap_136 : decode cX0_leap 136 = .ok (.imul, 1) := by decide +kernel
theorem dX0_leap_137 : decode cX0_leap 137 = .ok (.iadd, 1) := by decide +kernel
theorem dX0_leap_138 : decode cX0_leap 138 = .ok (.putfield 29, 3) := by decide +kernel
theorem dX0_leap_141 : decode cX0_leap 141 = .ok (.aload_n 0, 1) := by decide +kernel
theorem dX0_leap_142 : decode cX0_leap 142 = .ok (.dup, 1) := by decide +kernel
theorem dX0_leap_143 : decode cX0_leap 143 = .ok (.getfield 33, 3) := by decide +kernel
theorem dX0_leap_146 : decode cX0_leap 146 = .ok (.iload_n 3, 1) := by decide +kernel
theorem dX0_leap_147 : decode cX0_leap 147 = .ok (.iload 4, 2) := by decide +kernel
theorem dX0_leap_149 : decode cX0_leap 149 = .ok (.imul, 1) := by decide +kernel
theorem dX0_leap_150 : decode cX0_leap 150 = .ok (.iadd, 1) := by decide +kernel
theorem dX0_leap_151 : decode cX0_leap 151 = .ok (.putfield 33, 3) := by decide +kernel
theorem dX0_leap_154 : decode cX0_leap 154 = .ok (.aload_n 0, 1) := by decide +kernel
theorem dX0_leap_155 : decode cX0_leap 155 = .ok (.dup, 1) := by decide +kernel
theorem dX0_leap_156 : decode cX0_leap 156 = .ok (.getfield 39, 3) := by decide +kernel
theorem dX0_leap_159 : decode cX0_leap 159 = .ok (.iload_n 3, 1) := by decide +kernel
theorem dX0_leap_160 : decode cX0_leap 160 = .ok (.iload_n 2, 1) := by decide +kernel
theorem dX0_leap_161 : decode cX0_leap 161 = .ok (.imul, 1) := by decide +kernel
theorem dX0_leap_162 : decode cX0_leap 162 = .ok (.iadd, 1) := by decide +kernel
theorem dX0_leap_163 : decode cX0_leap 163 = .ok (.putfield 39, 3) := by decide +kernel
theorem dX0_leap_166 : decode cX0_leap 166 = .ok (.return_, 1) := by decide +kernel
theorem dX0_step_0 : decode cX0_step 0 = .ok (.aload_n 0, 1) := by decide +kernel
theorem dX0_step_1 : decode cX0_step 1 = .ok (.getfield 42, 3) := by decide +kernel
theorem dX0_step_4 : decode cX0_step 4 = .ok (.istore_n 3, 1) := by decide +kernel
theorem dX0_step_5 : decode cX0_step 5 = .ok (.iload_n 3, 1) := by decide +kernel
theorem dX0_step_6 : decode cX0_step 6 = .ok (.iconst 0, 1) := by decide +kernel
theorem dX0_step_7 : decode cX0_step 7 = .ok (.aload_n 1, 1) := by decide +kernel
theorem dX0_step_8 : decode cX0_step 8 = .ok (.getfield 48, 3) := by decide +kernel
theorem dX0_step_11 : decode cX0_step 11 = .ok (.iconst 1, 1) := by decide +kernel
theorem dX0_step_12 : decode cX0_step 12 = .ok (.isub, 1) := by decide +kernel
theorem dX0_step_13 : decode cX0_step 13 = .ok (.invokestatic 93, 3) := by decide +kernel
theorem dX0_step_16 : decode cX0_step 16 = .ok (.ifCond .ne 4, 3) := by decide +kernel
theorem dX0_step_19 : decode cX0_step 19 = .ok (.return_, 1) := by decide +kernel
theorem dX0_step_20 : decode cX0_step 20 = .ok (.aload_n 0, 1) := by decide +kernel
theorem dX0_step_21 : decode cX0_step 21 = .ok (.dup, 1) := by decide +kernel
theorem dX0_step_22 : decode cX0_step 22 = .ok (.getfield 39, 3) := by decide +kernel
theorem dX0_step_25 : decode cX0_step 25 = .ok (.iconst 1, 1) := by decide +kernel
theorem dX0_step_26 : decode cX0_step 26 = .ok (.iadd, 1) := by decide +kernel
theorem dX0_step_27 : decode cX0_step 27 = .ok (.putfield 39, 3) := by decide +kernel
theorem dX0_step_30 : decode cX0_step 30 = .ok (.aload_n 1, 1) := by decide +kernel
theorem dX0_step_31 : decode cX0_step 31 = .ok (.getfield 97, 3) := by decide +kernel
theorem dX0_step_34 : decode cX0_step 34 = .ok (.iload_n 3, 1) := by decide +kernel
theorem dX0_step_35 : decode cX0_step 35 = .ok (.iaload, 1) := by decide +kernel
theorem dX0_step_36 : decode cX0_step 36 = .ok (.istore 4, 2) := by decide +kernel
theorem dX0_step_38 : decode cX0_step 38 = .ok (.aload_n 0, 1) := by decide +kernel
theorem dX0_step_39 : decode cX0_step 39 = .ok (.aload_n 1, 1) := by decide +kernel
theorem dX0_step_40 : decode cX0_step 40 = .ok (.getfield 100, 3) := by decide +kernel
theorem dX0_step_43 : decode cX0_step 43 = .ok (.iload_n 3, 1) := by decide +kernel
theorem dX0_step_44 : decode cX0_step 44 = .ok (.iaload, 1) := by decide +kernel
theorem dX0_step_45 : decode cX0_step 45 = .ok (.putfield 42, 3) := by decide +kernel
theorem dX0_step_48 : decode cX0_step 48 = .ok (.iload 4, 2) := by decide +kernel
theorem dX0_step_50 : decode cX0_step 50 = .ok (.iconst 4, 1) := by decide +kernel
theorem dX0_step_51 : decode cX0_step 51 = .ok (.if_icmp .ne 29, 3) := by decide +kernel
theorem dX0_step_54 : decode cX0_step 54 = .ok (.aload_n 0, 1) := by decide +kernel
theorem dX0_step_55 : decode cX0_step 55 = .ok (.aload_n 1, 1) := by decide +kernel
theorem dX0_step_56 : decode cX0_step 56 = .ok (.getfield 103, 3) := by decide +kernel
theorem dX0_step_59 : decode cX0_step 59 = .ok (.iload_n 3, 1) := by decide +kernel
theorem dX0_step_60 : decode cX0_step 60 = .ok (.iaload, 1) := by decide +kernel
theorem dX0_step_61 : decode cX0_step 61 = .ok (.invokevirtual 106, 3) := by decide +kernel
theorem dX0_step_64 : decode cX0_step 64 = .ok (.ifCond .eq 71, 3) := by decide +kernel
theorem dX0_step_67 : decode cX0_step 67 = .ok (.aload_n 0, 1) := by decide +kernel
theorem dX0_step_68 : decode cX0_step 68 = .ok (.aload_n 1, 1) := by decide +kernel
theorem dX0_step_69 : decode cX0_step 69 = .ok (.getfield 110, 3) := by decide +kernel
theorem dX0_step_72 : decode cX0_step 72 = .ok (.iload_n 3, 1) := by decide +kernel
theorem dX0_step_73 : decode cX0_step 73 = .ok (.iaload, 1) := by decide +kernel
theorem dX0_step_74 : decode cX0_step 74 = .ok (.putfield 42, 3) := by decide +kernel
theorem dX0_step_77 : decode cX0_step 77 = .ok (.goto 58, 3) := by decide +kernel
theorem dX0_step_80 : decode cX0_step 80 = .ok (.iload 4, 2) := by decide +kernel
theorem dX0_step_82 : decode cX0_step 82 = .ok (.iconst 5, 1) := by decide +kernel
theorem dX0_step_83 : decode cX0_step 83 = .ok (.if_icmp .ne 19, 3) := by decide +kernel
theorem dX0_step_86 : decode cX0_step 86 = .ok (.aload_n 0, 1) := by decide +kernel
theorem dX0_step_87 : decode cX0_step 87 = .ok (.iconst 2, 1) := by decide +kernel
theorem dX0_step_88 : decode cX0_step 88 = .ok (.putfield 45, 3) := by decide +kernel
theorem dX0_step_91 : decode cX0_step 91 = .ok (.aload_n 0, 1) := by decide +kernel
theorem dX0_step_92 : decode cX0_step 92 = .ok (.aload_n 1, 1) := by decide +kernel
theorem dX0_step_93 : decode cX0_step 93 = .ok (.getfield 48, 3) := by decide +kernel
theorem dX0_step_96 : decode cX0_step 96 = .ok (.putfield 42, 3) := by decide +kernel
theorem dX0_step_99 : decode cX0_step 99 = .ok (.goto 36, 3) := by decide +kernel
theorem dX0_step_102 : decode cX0_step 102 = .ok (.iconst 0, 1) := by decide +kernel
theorem dX0_step_103 : decode cX0_step 103 = .ok (.istore 5, 2) := by decide +kernel
theorem dX0_step_105 : decode cX0_step 105 = .ok (.iload 5, 2) := by decide +kernel
theorem dX0_step_107 : decode cX0_step 107 = .ok (.iload_n 2, 1) := by decide +kernel
theorem dX0_step_108 : decode cX0_step 108 = .ok (.if_icmp .ge 27, 3) := by decide +kernel
theorem dX0_step_111 : decode cX0_step 111 = .ok (.aload_n 0, 1) := by decide +kernel
theorem dX0_step_112 : decode cX0_step 112 = .ok (.iload 4, 2) := by decide +kernel
theorem dX0_step_114 : decode cX0_step 114 = .ok (.aload_n 1, 1) := by decide +kernel
theorem dX0_step_115 : decode cX0_step 115 = .ok (.getfield 103, 3) := by decide +kernel
theorem dX0_step_118 : decode cX0_step 118 = .ok (.iload_n 3, 1) := by decide +kernel
theorem dX0_step_119 : decode cX0_step 119 = .ok (.iaload, 1) := by decide +kernel
theorem dX0_step_120 : decode cX0_step 120 = .ok (.aload_n 1, 1) := by decide +kernel
theorem dX0_step_121 : decode cX0_step 121 = .ok (.getfield 113, 3) := by decide +kernel
theorem dX0_step_124 : decode cX0_step 124 = .ok (.iload_n 3, 1) := by decide +kernel
theorem dX0_step_125 : decode cX0_step 125 = .ok (.iaload, 1) := by decide +kernel
theorem dX0_step_126 : decode cX0_step 126 = .ok (.invokevirtual 116, 3) := by decide +kernel
theorem dX0_step_129 : decode cX0_step 129 = .ok (.iinc 5 1, 3) := by decide +kernel
theorem dX0_step_132 : decode cX0_step 132 = .ok (.goto (-27), 3) := by decide +kernel
theorem dX0_step_135 : decode cX0_step 135 = .ok (.aload_n 0, 1) := by decide +kernel
theorem dX0_step_136 : decode cX0_step 136 = .ok (.invokevirtual 120, 3) := by decide +kernel
theorem dX0_step_139 : decode cX0_step 139 = .ok (.return_, 1) := by decide +kernel
theorem dX0_act_0 : decode cX0_act 0 = .ok (.iload_n 1, 1) := by decide +kernel
theorem dX0_act_1 : decode cX0_act 1 = .ok (.ifCond .ne 11, 3) := by decide +kernel
theorem dX0_act_4 : decode cX0_act 4 = .ok (.aload_n 0, 1) := by decide +kernel
theorem dX0_act_5 : decode cX0_act 5 = .ok (.iload_n 2, 1) := by decide +kernel
theorem dX0_act_6 : decode cX0_act 6 = .ok (.invokevirtual 123, 3) := by decide +kernel
theorem dX0_act_9 : decode cX0_act 9 = .ok (.goto 90, 3) := by decide +kernel
theorem dX0_act_12 : decode cX0_act 12 = .ok (.iload_n 1, 1) := by decide +kernel
theorem dX0_act_13 : decode cX0_act 13 = .ok (.iconst 1, 1) := by decide +kernel
theorem dX0_act_14 : decode cX0_act 14 = .ok (.if_icmp .ne 11, 3) := by decide +kernel
theorem dX0_act_17 : decode cX0_act 17 = .ok (.aload_n 0, 1) := by decide +kernel
theorem dX0_act_18 : decode cX0_act 18 = .ok (.iload_n 2, 1) := by decide +kernel
theorem dX0_act_19 : decode cX0_act 19 = .ok (.invokevirtual 126, 3) := by decide +kernel
theorem dX0_act_22 : decode cX0_act 22 = .ok (.goto 77, 3) := by decide +kernel
theorem dX0_act_25 : decode cX0_act 25 = .ok (.iload_n 2, 1) := by decide +kernel
theorem dX0_act_26 : decode cX0_act 26 = .ok (.iload_n 3, 1) := by decide +kernel
theorem dX0_act_27 : decode cX0_act 27 = .ok (.if_icmp .eq 72, 3) := by decide +kernel
theorem dX0_act_30 : decode cX0_act 30 = .ok (.iload_n 1, 1) := by decide +kernel
theorem dX0_act_31 : decode cX0_act 31 = .ok (.iconst 2, 1) := by decide +kernel
theorem dX0_act_32 : decode cX0_act 32 = .ok (.if_icmp .ne 12, 3) := by decide +kernel
theorem dX0_act_35 : decode cX0_act 35 = .ok (.aload_n 0, 1) := by decide +kernel
theorem dX0_act_36 : decode cX0_act 36 = .ok (.getfield 15, 3) := by decide +kernel
theorem dX0_act_39 : decode cX0_act 39 = .ok (.iload_n 2, 1) := by decide +kernel
theorem dX0_act_40 : decode cX0_act 40 = .ok (.iaload, 1) := by decide +kernel
theorem dX0_act_41 : decode cX0_act 41 = .ok (.goto 11, 3) := by decide +kernel
theorem dX0_act_44 : decode cX0_act 44 = .ok (.aload_n 0, 1) := by decide +kernel
theorem dX0_act_45 : decode cX0_act 45 = .ok (.getfield 15, 3) := by decide +kernel
theorem dX0_act_48 : decode cX0_act 48 = .ok (.iload_n 2, 1) := by decide +kernel
theorem dX0_act_49 : decode cX0_act 49 = .ok (.iaload, 1) := by decide +kernel
theorem dX0_act_50 : decode cX0_act 50 = .ok (.iconst 2, 1) := by decide +kernel
theorem dX0_act_51 : decode cX0_act 51 = .ok (.idiv, 1) := by decide +kernel
theorem dX0_act_52 : decode cX0_act 52 = .ok (.istore 4, 2) := by decide +kernel
theorem dX0_act_54 : decode cX0_act 54 = .ok (.iload 4, 2) := by decide +kernel
theorem dX0_act_56 : decode cX0_act 56 = .ok (.aload_n 0, 1) := by decide +kernel
theorem dX0_act_57 : decode cX0_act 57 = .ok (.getfield 21, 3) := by decide +kernel
theorem dX0_act_60 : decode cX0_act 60 = .ok (.getfield 129, 3) := by decide +kernel
theorem dX0_act_63 : decode cX0_act 63 = .ok (.iload_n 3, 1) := by decide +kernel
theorem dX0_act_64 : decode cX0_act 64 = .ok (.iaload, 1) := by decide +kernel
theorem dX0_act_65 : decode cX0_act 65 = .ok (.aload_n 0, 1) := by decide +kernel
theorem dX0_act_66 : decode cX0_act 66 = .ok (.getfield 15, 3) := by decide +kernel
theorem dX0_act_69 : decode cX0_act 69 = .ok (.iload_n 3, 1) := by decide +kernel
theorem dX0_act_70 : decode cX0_act 70 = .ok (.iaload, 1) := by decide +kernel
theorem dX0_act_71 : decode cX0_act 71 = .ok (.isub, 1) := by decide +kernel
theorem dX0_act_72 : decode cX0_act 72 = .ok (.invokestatic 134, 3) := by decide +kernel
theorem dX0_act_75 : decode cX0_act 75 = .ok (.istore 5, 2) := by decide +kernel
theorem dX0_act_77 : decode cX0_act 77 = .ok (.aload_n 0, 1) := by decide +kernel
theorem dX0_act_78 : decode cX0_act 78 = .ok (.getfield 15, 3) := by decide +kernel
theorem dX0_act_81 : decode cX0_act 81 = .ok (.iload_n 2, 1) := by decide +kernel
theorem dX0_act_82 : decode cX0_act 82 = .ok (.dup2, 1) := by decide +kernel
theorem dX0_act_83 : decode cX0_act 83 = .ok (.iaload, 1) := by decide +kernel
theorem dX0_act_84 : decode cX0_act 84 = .ok (.iload 5, 2) := by decide +kernel
theorem dX0_act_86 : decode cX0_act 86 = .ok (.isub, 1) := by decide +kernel
theorem dX0_act_87 : decode cX0_act 87 = .ok (.iastore, 1) := by decide +kernel
theorem dX0_act_88 : decode cX0_act 88 = .ok (.aload_n 0, 1) := by decide +kernel
theorem dX0_act_89 : decode cX0_act 89 = .ok (.getfield 15, 3) := by decide +kernel
theorem dX0_act_92 : decode cX0_act 92 = .ok (.iload_n 3, 1) := by decide +kernel
theorem dX0_act_93 : decode cX0_act 93 = .ok (.dup2, 1) := by decide +kernel
theorem dX0_act_94 : decode cX0_act 94 = .ok (.iaload, 1) := by decide +kernel
theorem dX0_act_95 : decode cX0_act 95 = .ok (.iload 5, 2) := by decide +kernel
theorem dX0_act_97 : decode cX0_act 97 = .ok (.iadd, 1) := by decide +kernel
theorem dX0_act_98 : decode cX0_act 98 = .ok (.iastore, 1) := by decide +kernel
theorem dX0_act_99 : decode cX0_act 99 = .ok (.return_, 1) := by decide +kernel
theorem dX0_dip_0 : decode cX0_dip 0 = .ok (.aload_n 0, 1) := by decide +kernel
theorem dX0_dip_1 : decode cX0_dip 1 = .ok (.getfield 15, 3) := by decide +kernel
theorem dX0_dip_4 : decode cX0_dip 4 = .ok (.iload_n 1, 1) := by decide +kernel
theorem dX0_dip_5 : decode cX0_dip 5 = .ok (.iaload, 1) := by decide +kernel
theorem dX0_dip_6 : decode cX0_dip 6 = .ok (.aload_n 0, 1) := by decide +kernel
theorem dX0_dip_7 : decode cX0_dip 7 = .ok (.getfield 21, 3) := by decide +kernel
theorem dX0_dip_10 : decode cX0_dip 10 = .ok (.getfield 129, 3) := by decide +kernel
theorem dX0_dip_13 : decode cX0_dip 13 = .ok (.iload_n 1, 1) := by decide +kernel
theorem dX0_dip_14 : decode cX0_dip 14 = .ok (.iaload, 1) := by decide +kernel
theorem dX0_dip_15 : decode cX0_dip 15 = .ok (.if_icmp .ge 16, 3) := by decide +kernel
theorem dX0_dip_18 : decode cX0_dip 18 = .ok (.aload_n 0, 1) := by decide +kernel
theorem dX0_dip_19 : decode cX0_dip 19 = .ok (.getfield 15, 3) := by decide +kernel
theorem dX0_dip_22 : decode cX0_dip 22 = .ok (.iload_n 1, 1) := by decide +kernel
theorem dX0_dip_23 : decode cX0_dip 23 = .ok (.dup2, 1) := by decide +kernel
theorem dX0_dip_24 : decode cX0_dip 24 = .ok (.iaload, 1) := by decide +kernel
theorem dX0_dip_25 : decode cX0_dip 25 = .ok (.iconst 1, 1) := by decide +kernel
theorem dX0_dip_26 : decode cX0_dip 26 = .ok (.iadd, 1) := by decide +kernel
theorem dX0_dip_27 : decode cX0_dip 27 = .ok (.iastore, 1) := by decide +kernel
theorem dX0_dip_28 : decode cX0_dip 28 = .ok (.goto 13, 3) := by decide +kernel
theorem dX0_dip_31 : decode cX0_dip 31 = .ok (.aload_n 0, 1) := by decide +kernel
theorem dX0_dip_32 : decode cX0_dip 32 = .ok (.dup, 1) := by decide +kernel
theorem dX0_dip_33 : decode cX0_dip 33 = .ok (.getfield 29, 3) := by decide +kernel
theorem dX0_dip_36 : decode cX0_dip 36 = .ok (.iconst 1, 1) := by decide +kernel
theorem dX0_dip_37 : decode cX0_dip 37 = .ok (.iadd, 1) := by decide +kernel
theorem dX0_dip_38 : decode cX0_dip 38 = .ok (.putfield 29, 3) := by decide +kernel
theorem dX0_dip_41 : decode cX0_dip 41 = .ok (.return_, 1) := by decide +kernel
theorem dX0_take_0 : decode cX0_take 0 = .ok (.aload_n 0, 1) := by decide +kernel
theorem dX0_take_1 : decode cX0_take 1 = .ok (.getfield 15, 3) := by decide +kernel
theorem dX0_take_4 : decode cX0_take 4 = .ok (.iload_n 1, 1) := by decide +kernel
theorem dX0_take_5 : decode cX0_take 5 = .ok (.iaload, 1) := by decide +kernel
theorem dX0_take_6 : decode cX0_take 6 = .ok (.ifCond .le 42, 3) := by decide +kernel
theorem dX0_take_9 : decode cX0_take 9 = .ok (.aload_n 0, 1) := by decide +kernel
theorem dX0_take_10 : decode cX0_take 10 = .ok (.getfield 15, 3) := by decide +kernel
theorem dX0_take_13 : decode cX0_take 13 = .ok (.iload_n 1, 1) := by decide +kernel
theorem dX0_take_14 : decode cX0_take 14 = .ok (.dup2, 1) := by decide +kernel
theorem dX0_take_15 : decode cX0_take 15 = .ok (.iaload, 1) := by decide +kernel
theorem dX0_take_16 : decode cX0_take 16 = .ok (.iconst 1, 1) := by decide +kernel
theorem dX0_take_17 : decode cX0_take 17 = .ok (.isub, 1) := by decide +kernel
theorem dX0_take_18 : decode cX0_take 18 = .ok (.iastore, 1) := by decide +kernel
theorem dX0_take_19 : decode cX0_take 19 = .ok (.aload_n 0, 1) := by decide +kernel
theorem dX0_take_20 : decode cX0_take 20 = .ok (.dup, 1) := by decide +kernel
theorem dX0_take_21 : decode cX0_take 21 = .ok (.getfield 33, 3) := by decide +kernel
theorem dX0_take_24 : decode cX0_take 24 = .ok (.iconst 1, 1) := by decide +kernel
theorem dX0_take_25 : decode cX0_take 25 = .ok (.iadd, 1) := by decide +kernel
theorem dX0_take_26 : decode cX0_take 26 = .ok (.putfield 33, 3) := by decide +kernel
theorem dX0_take_29 : decode cX0_take 29 = .ok (.aload_n 0, 1) := by decide +kernel
theorem dX0_take_30 : decode cX0_take 30 = .ok (.bipush 7, 2) := by decide +kernel
theorem dX0_take_32 : decode cX0_take 32 = .ok (.aload_n 0, 1) := by decide +kernel
theorem dX0_take_33 : decode cX0_take 33 = .ok (.getfield 36, 3) := by decide +kernel
theorem dX0_take_36 : decode cX0_take 36 = .ok (.imul, 1) := by decide +kernel
theorem dX0_take_37 : decode cX0_take 37 = .ok (.iload_n 1, 1) := by decide +kernel
theorem dX0_take_38 : decode cX0_take 38 = .ok (.iadd, 1) := by decide +kernel
theorem dX0_take_39 : decode cX0_take 39 = .ok (.iconst 1, 1) := by decide +kernel
theorem dX0_take_40 : decode cX0_take 40 = .ok (.iadd, 1) := by decide +kernel
theorem dX0_take_41 : decode cX0_take 41 = .ok (.sipush 1009, 3) := by decide +kernel
theorem dX0_take_44 : decode cX0_take 44 = .ok (.irem, 1) := by decide +kernel
theorem dX0_take_45 : decode cX0_take 45 = .ok (.putfield 36, 3) := by decide +kernel
theorem dX0_take_48 : decode cX0_take 48 = .ok (.return_, 1) := by decide +kernel
theorem dX0_findsEmpty_0 : decode cX0_findsEmpty 0 = .ok (.aload_n 0, 1) := by decide +kernel
theorem dX0_findsEmpty_1 : decode cX0_findsEmpty 1 = .ok (.getfield 21, 3) := by decide +kernel
theorem dX0_findsEmpty_4 : decode cX0_findsEmpty 4 = .ok (.getfield 137, 3) := by decide +kernel
theorem dX0_findsEmpty_7 : decode cX0_findsEmpty 7 = .ok (.iload_n 1, 1) := by decide +kernel
theorem dX0_findsEmpty_8 : decode cX0_findsEmpty 8 = .ok (.iaload, 1) := by decide +kernel
theorem dX0_findsEmpty_9 : decode cX0_findsEmpty 9 = .ok (.iconst 2, 1) := by decide +kernel
theorem dX0_findsEmpty_10 : decode cX0_findsEmpty 10 = .ok (.if_icmp .eq 12, 3) := by decide +kernel
theorem dX0_findsEmpty_13 : decode cX0_findsEmpty 13 = .ok (.aload_n 0, 1) := by decide +kernel
theorem dX0_findsEmpty_14 : decode cX0_findsEmpty 14 = .ok (.getfield 15, 3) := by decide +kernel
theorem dX0_findsEmpty_17 : decode cX0_findsEmpty 17 = .ok (.iload_n 1, 1) := by decide +kernel
theorem dX0_findsEmpty_18 : decode cX0_findsEmpty 18 = .ok (.iaload, 1) := by decide +kernel
theorem dX0_findsEmpty_19 : decode cX0_findsEmpty 19 = .ok (.ifCond .ne 7, 3) := by decide +kernel
theorem dX0_findsEmpty_22 : decode cX0_findsEmpty 22 = .ok (.iconst 1, 1) := by decide +kernel
theorem dX0_findsEmpty_23 : decode cX0_findsEmpty 23 = .ok (.goto 4, 3) := by decide +kernel
theorem dX0_findsEmpty_26 : decode cX0_findsEmpty 26 = .ok (.iconst 0, 1) := by decide +kernel
theorem dX0_findsEmpty_27 : decode cX0_findsEmpty 27 = .ok (.ireturn, 1) := by decide +kernel
theorem dX0_kindsWork_0 : decode cX0_kindsWork 0 = .ok (.aload_n 0, 1) := by decide +kernel
theorem dX0_kindsWork_1 : decode cX0_kindsWork 1 = .ok (.getfield 21, 3) := by decide +kernel
theorem dX0_kindsWork_4 : decode cX0_kindsWork 4 = .ok (.getfield 140, 3) := by decide +kernel
theorem dX0_kindsWork_7 : decode cX0_kindsWork 7 = .ok (.ifCond .ne 4, 3) := by decide +kernel
theorem dX0_kindsWork_10 : decode cX0_kindsWork 10 = .ok (.return_, 1) := by decide +kernel
theorem dX0_kindsWork_11 : decode cX0_kindsWork 11 = .ok (.iconst 0, 1) := by decide +kernel
theorem dX0_kindsWork_12 : decode cX0_kindsWork 12 = .ok (.istore_n 1, 1) := by decide +kernel
theorem dX0_kindsWork_13 : decode cX0_kindsWork 13 = .ok (.iload_n 1, 1) := by decide +kernel
theorem dX0_kindsWork_14 : decode cX0_kindsWork 14 = .ok (.bipush 6, 2) := by decide +kernel
theorem dX0_kindsWork_16 : decode cX0_kindsWork 16 = .ok (.if_icmp .ge 51, 3) := by decide +kernel
theorem dX0_kindsWork_19 : decode cX0_kindsWork 19 = .ok (.aload_n 0, 1) := by decide +kernel
theorem dX0_kindsWork_20 : decode cX0_kindsWork 20 = .ok (.getfield 21, 3) := by decide +kernel
theorem dX0_kindsWork_23 : decode cX0_kindsWork 23 = .ok (.getfield 137, 3) := by decide +kernel
theorem dX0_kindsWork_26 : decode cX0_kindsWork 26 = .ok (.iload_n 1, 1) := by decide +kernel
theorem dX0_kindsWork_27 : decode cX0_kindsWork 27 = .ok (.iaload, 1) := by decide +kernel
theorem dX0_kindsWork_28 : decode cX0_kindsWork 28 = .ok (.iconst 1, 1) := by decide +kernel
theorem dX0_kindsWork_29 : decode cX0_kindsWork 29 = .ok (.if_icmp .ne 32, 3) := by decide +kernel
theorem dX0_kindsWork_32 : decode cX0_kindsWork 32 = .ok (.aload_n 0, 1) := by decide +kernel
theorem dX0_kindsWork_33 : decode cX0_kindsWork 33 = .ok (.getfield 15, 3) := by decide +kernel
theorem dX0_kindsWork_36 : decode cX0_kindsWork 36 = .ok (.iload_n 1, 1) := by decide +kernel
theorem dX0_kindsWork_37 : decode cX0_kindsWork 37 = .ok (.iaload, 1) := by decide +kernel
theorem dX0_kindsWork_38 : decode cX0_kindsWork 38 = .ok (.ifCond .le 23, 3) := by decide +kernel
theorem dX0_kindsWork_41 : decode cX0_kindsWork 41 = .ok (.aload_n 0, 1) := by decide +kernel
theorem dX0_kindsWork_42 : decode cX0_kindsWork 42 = .ok (.getfield 15, 3) := by decide +kernel
theorem dX0_kindsWork_45 : decode cX0_kindsWork 45 = .ok (.iload_n 1, 1) := by decide +kernel
theorem dX0_kindsWork_46 : decode cX0_kindsWork 46 = .ok (.dup2, 1) := by decide +kernel
theorem dX0_kindsWork_47 : decode cX0_kindsWork 47 = .ok (.iaload, 1) := by decide +kernel
theorem dX0_kindsWork_48 : decode cX0_kindsWork 48 = .ok (.iconst 1, 1) := by decide +kernel
theorem dX0_kindsWork_49 : decode cX0_kindsWork 49 = .ok (.isub, 1) := by decide +kernel
theorem dX0_kindsWork_50 : decode cX0_kindsWork 50 = .ok (.iastore, 1) := by decide +kernel
theorem dX0_kindsWork_51 : decode cX0_kindsWork 51 = .ok (.aload_n 0, 1) := by decide +kernel
theorem dX0_kindsWork_52 : decode cX0_kindsWork 52 = .ok (.dup, 1) := by decide +kernel
theorem dX0_kindsWork_53 : decode cX0_kindsWork 53 = .ok (.getfield 29, 3) := by decide +kernel
theorem dX0_kindsWork_56 : decode cX0_kindsWork 56 = .ok (.iconst 1, 1) := by decide +kernel
theorem dX0_kindsWork_57 : decode cX0_kindsWork 57 = .ok (.iadd, 1) := by decide +kernel
theorem dX0_kindsWork_58 : decode cX0_kindsWork 58 = .ok (.putfield 29, 3) := by decide +kernel
theorem dX0_kindsWork_61 : decode cX0_kindsWork 61 = .ok (.iinc 1 1, 3) := by decide +kernel
theorem dX0_kindsWork_64 : decode cX0_kindsWork 64 = .ok (.goto (-51), 3) := by decide +kernel
theorem dX0_kindsWork_67 : decode cX0_kindsWork 67 = .ok (.iconst 0, 1) := by decide +kernel
theorem dX0_kindsWork_68 : decode cX0_kindsWork 68 = .ok (.istore_n 1, 1) := by decide +kernel
theorem dX0_kindsWork_69 : decode cX0_kindsWork 69 = .ok (.iload_n 1, 1) := by decide +kernel
theorem dX0_kindsWork_70 : decode cX0_kindsWork 70 = .ok (.bipush 6, 2) := by decide +kernel
theorem dX0_kindsWork_72 : decode cX0_kindsWork 72 = .ok (.if_icmp .ge 42, 3) := by decide +kernel
theorem dX0_kindsWork_75 : decode cX0_kindsWork 75 = .ok (.aload_n 0, 1) := by decide +kernel
theorem dX0_kindsWork_76 : decode cX0_kindsWork 76 = .ok (.getfield 21, 3) := by decide +kernel
theorem dX0_kindsWork_79 : decode cX0_kindsWork 79 = .ok (.getfield 137, 3) := by decide +kernel
theorem dX0_kindsWork_82 : decode cX0_kindsWork 82 = .ok (.iload_n 1, 1) := by decide +kernel
theorem dX0_kindsWork_83 : decode cX0_kindsWork 83 = .ok (.iaload, 1) := by decide +kernel
theorem dX0_kindsWork_84 : decode cX0_kindsWork 84 = .ok (.iconst 3, 1) := by decide +kernel
theorem dX0_kindsWork_85 : decode cX0_kindsWork 85 = .ok (.if_icmp .ne 23, 3) := by decide +kernel
theorem dX0_kindsWork_88 : decode cX0_kindsWork 88 = .ok (.aload_n 0, 1) := by decide +kernel
theorem dX0_kindsWork_89 : decode cX0_kindsWork 89 = .ok (.iload_n 1, 1) := by decide +kernel
theorem dX0_kindsWork_90 : decode cX0_kindsWork 90 = .ok (.iload_n 1, 1) := by decide +kernel
theorem dX0_kindsWork_91 : decode cX0_kindsWork 91 = .ok (.iconst 1, 1) := by decide +kernel
theorem dX0_kindsWork_92 : decode cX0_kindsWork 92 = .ok (.iadd, 1) := by decide +kernel
theorem dX0_kindsWork_93 : decode cX0_kindsWork 93 = .ok (.bipush 6, 2) := by decide +kernel
theorem dX0_kindsWork_95 : decode cX0_kindsWork 95 = .ok (.if_icmp .ge 9, 3) := by decide +kernel
theorem dX0_kindsWork_98 : decode cX0_kindsWork 98 = .ok (.iload_n 1, 1) := by decide +kernel
theorem dX0_kindsWork_99 : decode cX0_kindsWork 99 = .ok (.iconst 1, 1) := by decide +kernel
theorem dX0_kindsWork_100 : decode cX0_kindsWork 100 = .ok (.iadd, 1) := by decide +kernel
theorem dX0_kindsWork_101 : decode cX0_kindsWork 101 = .ok (.goto 4, 3) := by decide +kernel
theorem dX0_kindsWork_104 : decode cX0_kindsWork 104 = .ok (.iconst 0, 1) := by decide +kernel
theorem dX0_kindsWork_105 : decode cX0_kindsWork 105 = .ok (.invokevirtual 144, 3) := by decide +kernel
theorem dX0_kindsWork_108 : decode cX0_kindsWork 108 = .ok (.iinc 1 1, 3) := by decide +kernel
theorem dX0_kindsWork_111 : decode cX0_kindsWork 111 = .ok (.goto (-42), 3) := by decide +kernel
theorem dX0_kindsWork_114 : decode cX0_kindsWork 114 = .ok (.return_, 1) := by decide +kernel
theorem dX0_flow_0 : decode cX0_flow 0 = .ok (.aload_n 0, 1) := by decide +kernel
theorem dX0_flow_1 : decode cX0_flow 1 = .ok (.getfield 15, 3) := by decide +kernel
theorem dX0_flow_4 : decode cX0_flow 4 = .ok (.iload_n 1, 1) := by decide +kernel
theorem dX0_flow_5 : decode cX0_flow 5 = .ok (.iaload, 1) := by decide +kernel
theorem dX0_flow_6 : decode cX0_flow 6 = .ok (.aload_n 0, 1) := by decide +kernel
theorem dX0_flow_7 : decode cX0_flow 7 = .ok (.getfield 15, 3) := by decide +kernel
theorem dX0_flow_10 : decode cX0_flow 10 = .ok (.iload_n 2, 1) := by decide +kernel
theorem dX0_flow_11 : decode cX0_flow 11 = .ok (.iaload, 1) := by decide +kernel
theorem dX0_flow_12 : decode cX0_flow 12 = .ok (.iconst 2, 1) := by decide +kernel
theorem dX0_flow_13 : decode cX0_flow 13 = .ok (.iadd, 1) := by decide +kernel
theorem dX0_flow_14 : decode cX0_flow 14 = .ok (.if_icmp .lt 41, 3) := by decide +kernel
theorem dX0_flow_17 : decode cX0_flow 17 = .ok (.aload_n 0, 1) := by decide +kernel
theorem dX0_flow_18 : decode cX0_flow 18 = .ok (.getfield 15, 3) := by decide +kernel
theorem dX0_flow_21 : decode cX0_flow 21 = .ok (.iload_n 2, 1) := by decide +kernel
theorem dX0_flow_22 : decode cX0_flow 22 = .ok (.iaload, 1) := by decide +kernel
theorem dX0_flow_23 : decode cX0_flow 23 = .ok (.aload_n 0, 1) := by decide +kernel
theorem dX0_flow_24 : decode cX0_flow 24 = .ok (.getfield 21, 3) := by decide +kernel
theorem dX0_flow_27 : decode cX0_flow 27 = .ok (.getfield 129, 3) := by decide +kernel
theorem dX0_flow_30 : decode cX0_flow 30 = .ok (.iload_n 2, 1) := by decide +kernel
theorem dX0_flow_31 : decode cX0_flow 31 = .ok (.iaload, 1) := by decide +kernel
theorem dX0_flow_32 : decode cX0_flow 32 = .ok (.if_icmp .ge 23, 3) := by decide +kernel
theorem dX0_flow_35 : decode cX0_flow 35 = .ok (.aload_n 0, 1) := by decide +kernel
theorem dX0_flow_36 : decode cX0_flow 36 = .ok (.getfield 15, 3) := by decide +kernel
theorem dX0_flow_39 : decode cX0_flow 39 = .ok (.iload_n 1, 1) := by decide +kernel
theorem dX0_flow_40 : decode cX0_flow 40 = .ok (.dup2, 1) := by decide +kernel
theorem dX0_flow_41 : decode cX0_flow 41 = .ok (.iaload, 1) := by decide +kernel
theorem dX0_flow_42 : decode cX0_flow 42 = .ok (.iconst 1, 1) := by decide +kernel
theorem dX0_flow_43 : decode cX0_flow 43 = .ok (.isub, 1) := by decide +kernel
theorem dX0_flow_44 : decode cX0_flow 44 = .ok (.iastore, 1) := by decide +kernel
theorem dX0_flow_45 : decode cX0_flow 45 = .ok (.aload_n 0, 1) := by decide +kernel
theorem dX0_flow_46 : decode cX0_flow 46 = .ok (.getfield 15, 3) := by decide +kernel
theorem dX0_flow_49 : decode cX0_flow 49 = .ok (.iload_n 2, 1) := by decide +kernel
theorem dX0_flow_50 : decode cX0_flow 50 = .ok (.dup2, 1) := by decide +kernel
theorem dX0_flow_51 : decode cX0_flow 51 = .ok (.iaload, 1) := by decide +kernel
theorem dX0_flow_52 : decode cX0_flow 52 = .ok (.iconst 1, 1) := by decide +kernel
theorem dX0_flow_53 : decode cX0_flow 53 = .ok (.iadd, 1) := by decide +kernel
theorem dX0_flow_54 : decode cX0_flow 54 = .ok (.iastore, 1) := by decide +kernel
theorem dX0_flow_55 : decode cX0_flow 55 = .ok (.return_, 1) := by decide +kernel
theorem dX0_known_0 : decode cX0_known 0 = .ok (.iload_n 1, 1) := by decide +kernel
theorem dX0_known_1 : decode cX0_known 1 = .ok (.iconst 0, 1) := by decide +kernel
theorem dX0_known_2 : decode cX0_known 2 = .ok (.iconst 5, 1) := by decide +kernel
theorem dX0_known_3 : decode cX0_known 3 = .ok (.invokestatic 93, 3) := by decide +kernel
theorem dX0_known_6 : decode cX0_known 6 = .ok (.ifCond .eq 12, 3) := by decide +kernel
theorem dX0_known_9 : decode cX0_known 9 = .ok (.aload_n 0, 1) := by decide +kernel
theorem dX0_known_10 : decode cX0_known 10 = .ok (.getfield 9, 3) := by decide +kernel
theorem dX0_known_13 : decode cX0_known 13 = .ok (.iload_n 1, 1) := by decide +kernel
theorem dX0_known_14 : decode cX0_known 14 = .ok (.iconst 0, 1) := by decide +kernel
theorem dX0_known_15 : decode cX0_known 15 = .ok (.isub, 1) := by decide +kernel
theorem dX0_known_16 : decode cX0_known 16 = .ok (.iaload, 1) := by decide +kernel
theorem dX0_known_17 : decode cX0_known 17 = .ok (.ireturn, 1) := by decide +kernel
theorem dX0_known_18 : decode cX0_known 18 = .ok (.iload_n 1, 1) := by decide +kernel
theorem dX0_known_19 : decode cX0_known 19 = .ok (.bipush 6, 2) := by decide +kernel
theorem dX0_known_21 : decode cX0_known 21 = .ok (.bipush 11, 2) := by decide +kernel
theorem dX0_known_23 : decode cX0_known 23 = .ok (.invokestatic 93, 3) := by decide +kernel
theorem dX0_known_26 : decode cX0_known 26 = .ok (.ifCond .eq 13, 3) := by decide +kernel
theorem dX0_known_29 : decode cX0_known 29 = .ok (.aload_n 0, 1) := by decide +kernel
theorem dX0_known_30 : decode cX0_known 30 = .ok (.getfield 15, 3) := by decide +kernel
theorem dX0_known_33 : decode cX0_known 33 = .ok (.iload_n 1, 1) := by decide +kernel
theorem dX0_known_34 : decode cX0_known 34 = .ok (.bipush 6, 2) := by decide +kernel
theorem dX0_known_36 : decode cX0_known 36 = .ok (.isub, 1) := by decide +kernel
theorem dX0_known_37 : decode cX0_known 37 = .ok (.iaload, 1) := by decide +kernel
theorem dX0_known_38 : decode cX0_known 38 = .ok (.ireturn, 1) := by decide +kernel
theorem dX0_known_39 : decode cX0_known 39 = .ok (.iload_n 1, 1) := by decide +kernel
theorem dX0_known_40 : decode cX0_known 40 = .ok (.tableswitch 43 12 14 #[28, 33, 38], 28) := by decide +kernel
theorem dX0_known_68 : decode cX0_known 68 = .ok (.aload_n 0, 1) := by decide +kernel
theorem dX0_known_69 : decode cX0_known 69 = .ok (.getfield 29, 3) := by decide +kernel
theorem dX0_known_72 : decode cX0_known 72 = .ok (.ireturn, 1) := by decide +kernel
theorem dX0_known_73 : decode cX0_known 73 = .ok (.aload_n 0, 1) := by decide +kernel
theorem dX0_known_74 : decode cX0_known 74 = .ok (.getfield 33, 3) := by decide +kernel
theorem dX0_known_77 : decode cX0_known 77 = .ok (.ireturn, 1) := by decide +kernel
theorem dX0_known_78 : decode cX0_known 78 = .ok (.aload_n 0, 1) := by decide +kernel
theorem dX0_known_79 : decode cX0_known 79 = .ok (.getfield 39, 3) := by decide +kernel
theorem dX0_known_82 : decode cX0_known 82 = .ok (.ireturn, 1) := by decide +kernel
theorem dX0_known_83 : decode cX0_known 83 = .ok (.aload_n 0, 1) := by decide +kernel
theorem dX0_known_84 : decode cX0_known 84 = .ok (.getfield 45, 3) := by decide +kernel
theorem dX0_known_87 : decode cX0_known 87 = .ok (.ireturn, 1) := by decide +kernel
theorem dX1_init_0 : decode cX1_init 0 = .ok (.aload_n 0, 1) := by decide +kernel
theorem dX1_init_1 : decode cX1_init 1 = .ok (.invokespecial 3, 3) := by decide +kernel
theorem dX1_init_4 : decode cX1_init 4 = .ok (.aload_n 0, 1) := by decide +kernel
theorem dX1_init_5 : decode cX1_init 5 = .ok (.bipush 6, 2) := by decide +kernel
theorem dX1_init_7 : decode cX1_init 7 = .ok (.newarray .int, 2) := by decide +kernel
theorem dX1_init_9 : decode cX1_init 9 = .ok (.putfield 9, 3) := by decide +kernel
theorem dX1_init_12 : decode cX1_init 12 = .ok (.return_, 1) := by decide +kernel
theorem dX1_copy_0 : decode cX1_copy 0 = .ok (.aload_n 1, 1) := by decide +kernel
theorem dX1_copy_1 : decode cX1_copy 1 = .ok (.getfield 9, 3) := by decide +kernel
theorem dX1_copy_4 : decode cX1_copy 4 = .ok (.aload_n 0, 1) := by decide +kernel
theorem dX1_copy_5 : decode cX1_copy 5 = .ok (.getfield 9, 3) := by decide +kernel
theorem dX1_copy_8 : decode cX1_copy 8 = .ok (.invokestatic 15, 3) := by decide +kernel
theorem dX1_copy_11 : decode cX1_copy 11 = .ok (.aload_n 0, 1) := by decide +kernel
theorem dX1_copy_12 : decode cX1_copy 12 = .ok (.aload_n 1, 1) := by decide +kernel
theorem dX1_copy_13 : decode cX1_copy 13 = .ok (.getfield 19, 3) := by decide +kernel
theorem dX1_copy_16 : decode cX1_copy 16 = .ok (.putfield 19, 3) := by decide +kernel
theorem dX1_copy_19 : decode cX1_copy 19 = .ok (.aload_n 0, 1) := by decide +kernel
theorem dX1_copy_20 : decode cX1_copy 20 = .ok (.aload_n 1, 1) := by decide +kernel
theorem dX1_copy_21 : decode cX1_copy 21 = .ok (.getfield 23, 3) := by decide +kernel
theorem dX1_copy_24 : decode cX1_copy 24 = .ok (.putfield 23, 3) := by decide +kernel
theorem dX1_copy_27 : decode cX1_copy 27 = .ok (.aload_n 0, 1) := by decide +kernel
theorem dX1_copy_28 : decode cX1_copy 28 = .ok (.aload_n 1, 1) := by decide +kernel
theorem dX1_copy_29 : decode cX1_copy 29 = .ok (.getfield 26, 3) := by decide +kernel
theorem dX1_copy_32 : decode cX1_copy 32 = .ok (.putfield 26, 3) := by decide +kernel
theorem dX1_copy_35 : decode cX1_copy 35 = .ok (.aload_n 0, 1) := by decide +kernel
theorem dX1_copy_36 : decode cX1_copy 36 = .ok (.aload_n 1, 1) := by decide +kernel
theorem dX1_copy_37 : decode cX1_copy 37 = .ok (.getfield 29, 3) := by decide +kernel
theorem dX1_copy_40 : decode cX1_copy 40 = .ok (.putfield 29, 3) := by decide +kernel
theorem dX1_copy_43 : decode cX1_copy 43 = .ok (.return_, 1) := by decide +kernel
theorem dX2_init_0 : decode cX2_init 0 = .ok (.aload_n 0, 1) := by decide +kernel
theorem dX2_init_1 : decode cX2_init 1 = .ok (.invokespecial 3, 3) := by decide +kernel
theorem dX2_init_4 : decode cX2_init 4 = .ok (.aload_n 0, 1) := by decide +kernel
theorem dX2_init_5 : decode cX2_init 5 = .ok (.bipush 6, 2) := by decide +kernel
theorem dX2_init_7 : decode cX2_init 7 = .ok (.newarray .int, 2) := by decide +kernel
theorem dX2_init_9 : decode cX2_init 9 = .ok (.putfield 9, 3) := by decide +kernel
theorem dX2_init_12 : decode cX2_init 12 = .ok (.aload_n 0, 1) := by decide +kernel
theorem dX2_init_13 : decode cX2_init 13 = .ok (.bipush 8, 2) := by decide +kernel
theorem dX2_init_15 : decode cX2_init 15 = .ok (.newarray .int, 2) := by decide +kernel
theorem dX2_init_17 : decode cX2_init 17 = .ok (.putfield 15, 3) := by decide +kernel
theorem dX2_init_20 : decode cX2_init 20 = .ok (.aload_n 0, 1) := by decide +kernel
theorem dX2_init_21 : decode cX2_init 21 = .ok (.bipush 8, 2) := by decide +kernel
theorem dX2_init_23 : decode cX2_init 23 = .ok (.newarray .int, 2) := by decide +kernel
theorem dX2_init_25 : decode cX2_init 25 = .ok (.putfield 18, 3) := by decide +kernel
theorem dX2_init_28 : decode cX2_init 28 = .ok (.aload_n 0, 1) := by decide +kernel
theorem dX2_init_29 : decode cX2_init 29 = .ok (.bipush 8, 2) := by decide +kernel
theorem dX2_init_31 : decode cX2_init 31 = .ok (.newarray .int, 2) := by decide +kernel
theorem dX2_init_33 : decode cX2_init 33 = .ok (.putfield 21, 3) := by decide +kernel
theorem dX2_init_36 : decode cX2_init 36 = .ok (.aload_n 0, 1) := by decide +kernel
theorem dX2_init_37 : decode cX2_init 37 = .ok (.bipush 48, 2) := by decide +kernel
theorem dX2_init_39 : decode cX2_init 39 = .ok (.newarray .int, 2) := by decide +kernel
theorem dX2_init_41 : decode cX2_init 41 = .ok (.putfield 24, 3) := by decide +kernel
theorem dX2_init_44 : decode cX2_init 44 = .ok (.aload_n 0, 1) := by decide +kernel
theorem dX2_init_45 : decode cX2_init 45 = .ok (.bipush 6, 2) := by decide +kernel
theorem dX2_init_47 : decode cX2_init 47 = .ok (.newarray .int, 2) := by decide +kernel
theorem dX2_init_49 : decode cX2_init 49 = .ok (.putfield 27, 3) := by decide +kernel
theorem dX2_init_52 : decode cX2_init 52 = .ok (.aload_n 0, 1) := by decide +kernel
theorem dX2_init_53 : decode cX2_init 53 = .ok (.bipush 8, 2) := by decide +kernel
theorem dX2_init_55 : decode cX2_init 55 = .ok (.newarray .int, 2) := by decide +kernel
theorem dX2_init_57 : decode cX2_init 57 = .ok (.putfield 30, 3) := by decide +kernel
theorem dX2_init_60 : decode cX2_init 60 = .ok (.aload_n 0, 1) := by decide +kernel
theorem dX2_init_61 : decode cX2_init 61 = .ok (.sipush 256, 3) := by decide +kernel
theorem dX2_init_64 : decode cX2_init 64 = .ok (.newarray .int, 2) := by decide +kernel
theorem dX2_init_66 : decode cX2_init 66 = .ok (.putfield 33, 3) := by decide +kernel
theorem dX2_init_69 : decode cX2_init 69 = .ok (.aload_n 0, 1) := by decide +kernel
theorem dX2_init_70 : decode cX2_init 70 = .ok (.aload_n 1, 1) := by decide +kernel
theorem dX2_init_71 : decode cX2_init 71 = .ok (.putfield 36, 3) := by decide +kernel
theorem dX2_init_74 : decode cX2_init 74 = .ok (.aload_n 0, 1) := by decide +kernel
theorem dX2_init_75 : decode cX2_init 75 = .ok (.aload_n 2, 1) := by decide +kernel
theorem dX2_init_76 : decode cX2_init 76 = .ok (.putfield 40, 3) := by decide +kernel
theorem dX2_init_79 : decode cX2_init 79 = .ok (.return_, 1) := by decide +kernel
theorem dX2_isOfferGood_0 : decode cX2_isOfferGood 0 = .ok (.iconst 0, 1) := by decide +kernel
theorem dX2_isOfferGood_1 : decode cX2_isOfferGood 1 = .ok (.istore_n 1, 1) := by decide +kernel
theorem dX2_isOfferGood_2 : decode cX2_isOfferGood 2 = .ok (.iload_n 1, 1) := by decide +kernel
theorem dX2_isOfferGood_3 : decode cX2_isOfferGood 3 = .ok (.bipush 6, 2) := by decide +kernel
theorem dX2_isOfferGood_5 : decode cX2_isOfferGood 5 = .ok (.if_icmp .ge 22, 3) := by decide +kernel
theorem dX2_isOfferGood_8 : decode cX2_isOfferGood 8 = .ok (.aload_n 0, 1) := by decide +kernel
theorem dX2_isOfferGood_9 : decode cX2_isOfferGood 9 = .ok (.getfield 9, 3) := by decide +kernel
theorem dX2_isOfferGood_12 : decode cX2_isOfferGood 12 = .ok (.iload_n 1, 1) := by decide +kernel
theorem dX2_isOfferGood_13 : decode cX2_isOfferGood 13 = .ok (.iaload, 1) := by decide +kernel
theorem dX2_isOfferGood_14 : decode cX2_isOfferGood 14 = .ok (.bipush 99, 2) := by decide +kernel
theorem dX2_isOfferGood_16 : decode cX2_isOfferGood 16 = .ok (.if_icmp .le 5, 3) := by decide +kernel
theorem dX2_isOfferGood_19 : decode cX2_isOfferGood 19 = .ok (.iconst 0, 1) := by decide +kernel
theorem dX2_isOfferGood_20 : decode cX2_isOfferGood 20 = .ok (.ireturn, 1) := by decide +kernel
theorem dX2_isOfferGood_21 : decode cX2_isOfferGood 21 = .ok (.iinc 1 1, 3) := by decide +kernel
theorem dX2_isOfferGood_24 : decode cX2_isOfferGood 24 = .ok (.goto (-22), 3) := by decide +kernel
theorem dX2_isOfferGood_27 : decode cX2_isOfferGood 27 = .ok (.iconst 1, 1) := by decide +kernel
theorem dX2_isOfferGood_28 : decode cX2_isOfferGood 28 = .ok (.ireturn, 1) := by decide +kernel
theorem dX2_take_0 : decode cX2_take 0 = .ok (.aload_n 0, 1) := by decide +kernel
theorem dX2_take_1 : decode cX2_take 1 = .ok (.getfield 15, 3) := by decide +kernel
theorem dX2_take_4 : decode cX2_take 4 = .ok (.iload_n 1, 1) := by decide +kernel
theorem dX2_take_5 : decode cX2_take 5 = .ok (.iload_n 2, 1) := by decide +kernel
theorem dX2_take_6 : decode cX2_take 6 = .ok (.iastore, 1) := by decide +kernel
theorem dX2_take_7 : decode cX2_take 7 = .ok (.aload_n 0, 1) := by decide +kernel
theorem dX2_take_8 : decode cX2_take 8 = .ok (.getfield 18, 3) := by decide +kernel
theorem dX2_take_11 : decode cX2_take 11 = .ok (.iload_n 1, 1) := by decide +kernel
theorem dX2_take_12 : decode cX2_take 12 = .ok (.iload_n 3, 1) := by decide +kernel
theorem dX2_take_13 : decode cX2_take 13 = .ok (.iastore, 1) := by decide +kernel
theorem dX2_take_14 : decode cX2_take 14 = .ok (.aload_n 0, 1) := by decide +kernel
theorem dX2_take_15 : decode cX2_take 15 = .ok (.getfield 21, 3) := by decide +kernel
theorem dX2_take_18 : decode cX2_take 18 = .ok (.iload_n 1, 1) := by decide +kernel
theorem dX2_take_19 : decode cX2_take 19 = .ok (.iload 4, 2) := by decide +kernel
theorem dX2_take_21 : decode cX2_take 21 = .ok (.iastore, 1) := by decide +kernel
theorem dX2_take_22 : decode cX2_take 22 = .ok (.aload_n 0, 1) := by decide +kernel
theorem dX2_take_23 : decode cX2_take 23 = .ok (.getfield 9, 3) := by decide +kernel
theorem dX2_take_26 : decode cX2_take 26 = .ok (.iconst 0, 1) := by decide +kernel
theorem dX2_take_27 : decode cX2_take 27 = .ok (.aload_n 0, 1) := by decide +kernel
theorem dX2_take_28 : decode cX2_take 28 = .ok (.getfield 24, 3) := by decide +kernel
theorem dX2_take_31 : decode cX2_take 31 = .ok (.iload_n 1, 1) := by decide +kernel
theorem dX2_take_32 : decode cX2_take 32 = .ok (.bipush 6, 2) := by decide +kernel
theorem dX2_take_34 : decode cX2_take 34 = .ok (.imul, 1) := by decide +kernel
theorem dX2_take_35 : decode cX2_take 35 = .ok (.bipush 6, 2) := by decide +kernel
theorem dX2_take_37 : decode cX2_take 37 = .ok (.invokestatic 44, 3) := by decide +kernel
theorem dX2_take_40 : decode cX2_take 40 = .ok (.aload_n 0, 1) := by decide +kernel
theorem dX2_take_41 : decode cX2_take 41 = .ok (.dup, 1) := by decide +kernel
theorem dX2_take_42 : decode cX2_take 42 = .ok (.getfield 50, 3) := by decide +kernel
theorem dX2_take_45 : decode cX2_take 45 = .ok (.iconst 1, 1) := by decide +kernel
theorem dX2_take_46 : decode cX2_take 46 = .ok (.iload_n 1, 1) := by decide +kernel
theorem dX2_take_47 : decode cX2_take 47 = .ok (.ishl, 1) := by decide +kernel
theorem dX2_take_48 : decode cX2_take 48 = .ok (.ior, 1) := by decide +kernel
theorem dX2_take_49 : decode cX2_take 49 = .ok (.putfield 50, 3) := by decide +kernel
theorem dX2_take_52 : decode cX2_take 52 = .ok (.return_, 1) := by decide +kernel
theorem dX2_stepsOf_0 : decode cX2_stepsOf 0 = .ok (.iconst 0, 1) := by decide +kernel
theorem dX2_stepsOf_1 : decode cX2_stepsOf 1 = .ok (.istore_n 3, 1) := by decide +kernel
theorem dX2_stepsOf_2 : decode cX2_stepsOf 2 = .ok (.iload_n 3, 1) := by decide +kernel
theorem dX2_stepsOf_3 : decode cX2_stepsOf 3 = .ok (.bipush 6, 2) := by decide +kernel
theorem dX2_stepsOf_5 : decode cX2_stepsOf 5 = .ok (.if_icmp .ge 38, 3) := by decide +kernel
theorem dX2_stepsOf_8 : decode cX2_stepsOf 8 = .ok (.aload_n 0, 1) := by decide +kernel
theorem dX2_stepsOf_9 : decode cX2_stepsOf 9 = .ok (.getfield 27, 3) := by decide +kernel
theorem dX2_stepsOf_12 : decode cX2_stepsOf 12 = .ok (.iload_n 3, 1) := by decide +kernel
theorem dX2_stepsOf_13 : decode cX2_stepsOf 13 = .ok (.aload_n 0, 1) := by decide +kernel
theorem dX2_stepsOf_14 : decode cX2_stepsOf 14 = .ok (.getfield 24, 3) := by decide +kernel
theorem dX2_stepsOf_17 : decode cX2_stepsOf 17 = .ok (.iload_n 1, 1) := by decide +kernel
theorem dX2_stepsOf_18 : decode cX2_stepsOf 18 = .ok (.bipush 6, 2) := by decide +kernel
theorem dX2_stepsOf_20 : decode cX2_stepsOf 20 = .ok (.imul, 1) := by decide +kernel
theorem dX2_stepsOf_21 : decode cX2_stepsOf 21 = .ok (.iload_n 3, 1) := by decide +kernel
theorem dX2_stepsOf_22 : decode cX2_stepsOf 22 = .ok (.iadd, 1) := by decide +kernel
theorem dX2_stepsOf_23 : decode cX2_stepsOf 23 = .ok (.iaload, 1) := by decide +kernel
theorem dX2_stepsOf_24 : decode cX2_stepsOf 24 = .ok (.aload_n 0, 1) := by decide +kernel
theorem dX2_stepsOf_25 : decode cX2_stepsOf 25 = .ok (.getfield 36, 3) := by decide +kernel
theorem dX2_stepsOf_28 : decode cX2_stepsOf 28 = .ok (.getfield 54, 3) := by decide +kernel
theorem dX2_stepsOf_31 : decode cX2_stepsOf 31 = .ok (.iload_n 3, 1) := by decide +kernel
theorem dX2_stepsOf_32 : decode cX2_stepsOf 32 = .ok (.iaload, 1) := by decide +kernel
theorem dX2_stepsOf_33 : decode cX2_stepsOf 33 = .ok (.invokestatic 59, 3) := by decide +kernel
theorem dX2_stepsOf_36 : decode cX2_stepsOf 36 = .ok (.iastore, 1) := by decide +kernel
theorem dX2_stepsOf_37 : decode cX2_stepsOf 37 = .ok (.iinc 3 1, 3) := by decide +kernel
theorem dX2_stepsOf_40 : decode cX2_stepsOf 40 = .ok (.goto (-38), 3) := by decide +kernel
theorem dX2_stepsOf_43 : decode cX2_stepsOf 43 = .ok (.aload_n 0, 1) := by decide +kernel
theorem dX2_stepsOf_44 : decode cX2_stepsOf 44 = .ok (.getfield 40, 3) := by decide +kernel
theorem dX2_stepsOf_47 : decode cX2_stepsOf 47 = .ok (.aload_n 0, 1) := by decide +kernel
theorem dX2_stepsOf_48 : decode cX2_stepsOf 48 = .ok (.getfield 27, 3) := by decide +kernel
theorem dX2_stepsOf_51 : decode cX2_stepsOf 51 = .ok (.iconst 0, 1) := by decide +kernel
theorem dX2_stepsOf_52 : decode cX2_stepsOf 52 = .ok (.invokevirtual 65, 3) := by decide +kernel
theorem dX2_stepsOf_55 : decode cX2_stepsOf 55 = .ok (.aload_n 0, 1) := by decide +kernel
theorem dX2_stepsOf_56 : decode cX2_stepsOf 56 = .ok (.getfield 40, 3) := by decide +kernel
theorem dX2_stepsOf_59 : decode cX2_stepsOf 59 = .ok (.aload_n 2, 1) := by decide +kernel
theorem dX2_stepsOf_60 : decode cX2_stepsOf 60 = .ok (.sipush 1000, 3) := by decide +kernel
theorem dX2_stepsOf_63 : decode cX2_stepsOf 63 = .ok (.invokevirtual 71, 3) := by decide +kernel
theorem dX2_stepsOf_66 : decode cX2_stepsOf 66 = .ok (.aload_n 0, 1) := by decide +kernel
theorem dX2_stepsOf_67 : decode cX2_stepsOf 67 = .ok (.getfield 30, 3) := by decide +kernel
theorem dX2_stepsOf_70 : decode cX2_stepsOf 70 = .ok (.iload_n 1, 1) := by decide +kernel
theorem dX2_stepsOf_71 : decode cX2_stepsOf 71 = .ok (.aload_n 0, 1) := by decide +kernel
theorem dX2_stepsOf_72 : decode cX2_stepsOf 72 = .ok (.getfield 40, 3) := by decide +kernel
theorem dX2_stepsOf_75 : decode cX2_stepsOf 75 = .ok (.getfield 75, 3) := by decide +kernel
theorem dX2_stepsOf_78 : decode cX2_stepsOf 78 = .ok (.iastore, 1) := by decide +kernel
theorem dX2_stepsOf_79 : decode cX2_stepsOf 79 = .ok (.aload_n 0, 1) := by decide +kernel
theorem dX2_stepsOf_80 : decode cX2_stepsOf 80 = .ok (.getfield 30, 3) := by decide +kernel
theorem dX2_stepsOf_83 : decode cX2_stepsOf 83 = .ok (.iload_n 1, 1) := by decide +kernel
theorem dX2_stepsOf_84 : decode cX2_stepsOf 84 = .ok (.iaload, 1) := by decide +kernel
theorem dX2_stepsOf_85 : decode cX2_stepsOf 85 = .ok (.ireturn, 1) := by decide +kernel
theorem dX2_weigh_0 : decode cX2_weigh 0 = .ok (.iload_n 1, 1) := by decide +kernel
theorem dX2_weigh_1 : decode cX2_weigh 1 = .ok (.istore_n 2, 1) := by decide +kernel
theorem dX2_weigh_2 : decode cX2_weigh 2 = .ok (.iload_n 2, 1) := by decide +kernel
theorem dX2_weigh_3 : decode cX2_weigh 3 = .ok (.ifCond .lt 45, 3) := by decide +kernel
theorem dX2_weigh_6 : decode cX2_weigh 6 = .ok (.iload_n 2, 1) := by decide +kernel
theorem dX2_weigh_7 : decode cX2_weigh 7 = .ok (.iload_n 1, 1) := by decide +kernel
theorem dX2_weigh_8 : decode cX2_weigh 8 = .ok (.iconst (-1), 1) := by decide +kernel
theorem dX2_weigh_9 : decode cX2_weigh 9 = .ok (.ixor, 1) := by decide +kernel
theorem dX2_weigh_10 : decode cX2_weigh 10 = .ok (.iand, 1) := by decide +kernel
theorem dX2_weigh_11 : decode cX2_weigh 11 = .ok (.ifCond .ne 31, 3) := by decide +kernel
theorem dX2_weigh_14 : decode cX2_weigh 14 = .ok (.aload_n 0, 1) := by decide +kernel
theorem dX2_weigh_15 : decode cX2_weigh 15 = .ok (.iload_n 1, 1) := by decide +kernel
theorem dX2_weigh_16 : decode cX2_weigh 16 = .ok (.iload_n 2, 1) := by decide +kernel
theorem dX2_weigh_17 : decode cX2_weigh 17 = .ok (.invokevirtual 77, 3) := by decide +kernel
theorem dX2_weigh_20 : decode cX2_weigh 20 = .ok (.istore_n 3, 1) := by decide +kernel
theorem dX2_weigh_21 : decode cX2_weigh 21 = .ok (.aload_n 0, 1) := by decide +kernel
theorem dX2_weigh_22 : decode cX2_weigh 22 = .ok (.getfield 33, 3) := by decide +kernel
theorem dX2_weigh_25 : decode cX2_weigh 25 = .ok (.iload_n 2, 1) := by decide +kernel
theorem dX2_weigh_26 : decode cX2_weigh 26 = .ok (.iload_n 3, 1) := by decide +kernel
theorem dX2_weigh_27 : decode cX2_weigh 27 = .ok (.iconst (-1), 1) := by decide +kernel
theorem dX2_weigh_28 : decode cX2_weigh 28 = .ok (.if_icmp .ne 7, 3) := by decide +kernel
theorem dX2_weigh_31 : decode cX2_weigh 31 = .ok (.iconst 0, 1) := by decide +kernel
theorem dX2_weigh_32 : decode cX2_weigh 32 = .ok (.goto 9, 3) := by decide +kernel
theorem dX2_weigh_35 : decode cX2_weigh 35 = .ok (.aload_n 0, 1) := by decide +kernel
theorem dX2_weigh_36 : decode cX2_weigh 36 = .ok (.iload_n 2, 1) := by decide +kernel
theorem dX2_weigh_37 : decode cX2_weigh 37 = .ok (.iload_n 3, 1) := by decide +kernel
theorem dX2_weigh_38 : decode cX2_weigh 38 = .ok (.invokevirtual 80, 3) := by decide +kernel
theorem dX2_weigh_41 : decode cX2_weigh 41 = .ok (.iastore, 1) := by decide +kernel
theorem dX2_weigh_42 : decode cX2_weigh 42 = .ok (.iinc 2 (-1), 3) := by decide +kernel
theorem dX2_weigh_45 : decode cX2_weigh 45 = .ok (.goto (-43), 3) := by decide +kernel
theorem dX2_weigh_48 : decode cX2_weigh 48 = .ok (.return_, 1) := by decide +kernel
theorem dX2_placed_0 : decode cX2_placed 0 = .ok (.iconst 0, 1) := by decide +kernel
theorem dX2_placed_1 : decode cX2_placed 1 = .ok (.istore_n 3, 1) := by decide +kernel
theorem dX2_placed_2 : decode cX2_placed 2 = .ok (.iconst (-1), 1) := by decide +kernel
theorem dX2_placed_3 : decode cX2_placed 3 = .ok (.istore 4, 2) := by decide +kernel
theorem dX2_placed_5 : decode cX2_placed 5 = .ok (.iconst 0, 1) := by decide +kernel
theorem dX2_placed_6 : decode cX2_placed 6 = .ok (.istore 5, 2) := by decide +kernel
theorem dX2_placed_8 : decode cX2_placed 8 = .ok (.iload 5, 2) := by decide +kernel
theorem dX2_placed_10 : decode cX2_placed 10 = .ok (.iload_n 2, 1) := by decide +kernel
theorem dX2_placed_11 : decode cX2_placed 11 = .ok (.if_icmp .gt 39, 3) := by decide +kernel
theorem dX2_placed_14 : decode cX2_placed 14 = .ok (.iload 5, 2) := by decide +kernel
theorem dX2_placed_16 : decode cX2_placed 16 = .ok (.bipush 8, 2) := by decide +kernel
theorem dX2_placed_18 : decode cX2_placed 18 = .ok (.if_icmp .ge 32, 3) := by decide +kernel
theorem dX2_placed_21 : decode cX2_placed 21 = .ok (.aload_n 0, 1) := by decide +kernel
theorem dX2_placed_22 : decode cX2_placed 22 = .ok (.iload_n 1, 1) := by decide +kernel
theorem dX2_placed_23 : decode cX2_placed 23 = .ok (.iload_n 3, 1) := by decide +kernel
theorem dX2_placed_24 : decode cX2_placed 24 = .ok (.invokevirtual 77, 3) := by decide +kernel
theorem dX2_placed_27 : decode cX2_placed 27 = .ok (.istore 4, 2) := by decide +kernel
theorem dX2_placed_29 : decode cX2_placed 29 = .ok (.iload 4, 2) := by decide +kernel
theorem dX2_placed_31 : decode cX2_placed 31 = .ok (.iconst (-1), 1) := by decide +kernel
theorem dX2_placed_32 : decode cX2_placed 32 = .ok (.if_icmp .ne 5, 3) := by decide +kernel
theorem dX2_placed_35 : decode cX2_placed 35 = .ok (.iconst (-1), 1) := by decide +kernel
theorem dX2_placed_36 : decode cX2_placed 36 = .ok (.ireturn, 1) := by decide +kernel
theorem dX2_placed_37 : decode cX2_placed 37 = .ok (.iload_n 3, 1) := by decide +kernel
theorem dX2_placed_38 : decode cX2_placed 38 = .ok (.iconst 1, 1) := by decide +kernel
theorem dX2_placed_39 : decode cX2_placed 39 = .ok (.iload 4, 2) := by decide +kernel
theorem dX2_placed_41 : decode cX2_placed 41 = .ok (.ishl, 1) := by decide +kernel
theorem dX2_placed_42 : decode cX2_placed 42 = .ok (.ior, 1) := by decide +kernel
theorem dX2_placed_43 : decode cX2_placed 43 = .ok (.istore_n 3, 1) := by decide +kernel
theorem dX2_placed_44 : decode cX2_placed 44 = .ok (.iinc 5 1, 3) := by decide +kernel
theorem dX2_placed_47 : decode cX2_placed 47 = .ok (.goto (-39), 3) := by decide +kernel
theorem dX2_placed_50 : decode cX2_placed 50 = .ok (.iload 4, 2) := by decide +kernel
theorem dX2_placed_52 : decode cX2_placed 52 = .ok (.ireturn, 1) := by decide +kernel
theorem dX2_firstBest_0 : decode cX2_firstBest 0 = .ok (.iconst (-1), 1) := by decide +kernel
theorem dX2_firstBest_1 : decode cX2_firstBest 1 = .ok (.istore_n 3, 1) := by decide +kernel
theorem dX2_firstBest_2 : decode cX2_firstBest 2 = .ok (.iconst 0, 1) := by decide +kernel
theorem dX2_firstBest_3 : decode cX2_firstBest 3 = .ok (.istore 4, 2) := by decide +kernel
theorem dX2_firstBest_5 : decode cX2_firstBest 5 = .ok (.iconst 0, 1) := by decide +kernel
theorem dX2_firstBest_6 : decode cX2_firstBest 6 = .ok (.istore 5, 2) := by decide +kernel
theorem dX2_firstBest_8 : decode cX2_firstBest 8 = .ok (.iload 5, 2) := by decide +kernel
theorem dX2_firstBest_10 : decode cX2_firstBest 10 = .ok (.bipush 8, 2) := by decide +kernel
theorem dX2_firstBest_12 : decode cX2_firstBest 12 = .ok (.if_icmp .ge 50, 3) := by decide +kernel
theorem dX2_firstBest_15 : decode cX2_firstBest 15 = .ok (.iload_n 1, 1) := by decide +kernel
theorem dX2_firstBest_16 : decode cX2_firstBest 16 = .ok (.iload_n 2, 1) := by decide +kernel
theorem dX2_firstBest_17 : decode cX2_firstBest 17 = .ok (.iconst (-1), 1) := by decide +kernel
theorem dX2_firstBest_18 : decode cX2_firstBest 18 = .ok (.ixor, 1) := by decide +kernel
theorem dX2_firstBest_19 : decode cX2_firstBest 19 = .ok (.iand, 1) := by decide +kernel
theorem dX2_firstBest_20 : decode cX2_firstBest 20 = .ok (.iload 5, 2) := by decide +kernel
theorem dX2_firstBest_22 : decode cX2_firstBest 22 = .ok (.ishr, 1) := by decide +kernel
theorem dX2_firstBest_23 : decode cX2_firstBest 23 = .ok (.iconst 1, 1) := by decide +kernel
theorem dX2_firstBest_24 : decode cX2_firstBest 24 = .ok (.iand, 1) := by decide +kernel
theorem dX2_firstBest_25 : decode cX2_firstBest 25 = .ok (.ifCond .eq 31, 3) := by decide +kernel
theorem dX2_firstBest_28 : decode cX2_firstBest 28 = .ok (.aload_n 0, 1) := by decide +kernel
theorem dX2_firstBest_29 : decode cX2_firstBest 29 = .ok (.iload_n 2, 1) := by decide +kernel
theorem dX2_firstBest_30 : decode cX2_firstBest 30 = .ok (.iload 5, 2) := by decide +kernel
theorem dX2_firstBest_32 : decode cX2_firstBest 32 = .ok (.invokevirtual 80, 3) := by decide +kernel
theorem dX2_firstBest_35 : decode cX2_firstBest 35 = .ok (.istore 6, 2) := by decide +kernel
theorem dX2_firstBest_37 : decode cX2_firstBest 37 = .ok (.iload_n 3, 1) := by decide +kernel
theorem dX2_firstBest_38 : decode cX2_firstBest 38 = .ok (.iconst (-1), 1) := by decide +kernel
theorem dX2_firstBest_39 : decode cX2_firstBest 39 = .ok (.if_icmp .eq 10, 3) := by decide +kernel
theorem dX2_firstBest_42 : decode cX2_firstBest 42 = .ok (.iload 6, 2) := by decide +kernel
theorem dX2_firstBest_44 : decode cX2_firstBest 44 = .ok (.iload 4, 2) := by decide +kernel
theorem dX2_firstBest_46 : decode cX2_firstBest 46 = .ok (.if_icmp .ge 10, 3) := by decide +kernel
theorem dX2_firstBest_49 : decode cX2_firstBest 49 = .ok (.iload 5, 2) := by decide +kernel
theorem dX2_firstBest_51 : decode cX2_firstBest 51 = .ok (.istore_n 3, 1) := by decide +kernel
theorem dX2_firstBest_52 : decode cX2_firstBest 52 = .ok (.iload 6, 2) := by decide +kernel
theorem dX2_firstBest_54 : decode cX2_firstBest 54 = .ok (.istore 4, 2) := by decide +kernel
theorem dX2_firstBest_56 : decode cX2_firstBest 56 = .ok (.iinc 5 1, 3) := by decide +kernel
theorem dX2_firstBest_59 : decode cX2_firstBest 59 = .ok (.goto (-51), 3) := by decide +kernel
theorem dX2_firstBest_62 : decode cX2_firstBest 62 = .ok (.iload_n 3, 1) := by decide +kernel
theorem dX2_firstBest_63 : decode cX2_firstBest 63 = .ok (.ireturn, 1) := by decide +kernel
theorem dX2_pricesBy_0 : decode cX2_pricesBy 0 = .ok (.aload_n 0, 1) := by decide +kernel
theorem dX2_pricesBy_1 : decode cX2_pricesBy 1 = .ok (.getfield 30, 3) := by decide +kernel
theorem dX2_pricesBy_4 : decode cX2_pricesBy 4 = .ok (.iload_n 2, 1) := by decide +kernel
theorem dX2_pricesBy_5 : decode cX2_pricesBy 5 = .ok (.iaload, 1) := by decide +kernel
theorem dX2_pricesBy_6 : decode cX2_pricesBy 6 = .ok (.istore_n 3, 1) := by decide +kernel
theorem dX2_pricesBy_7 : decode cX2_pricesBy 7 = .ok (.iconst 0, 1) := by decide +kernel
theorem dX2_pricesBy_8 : decode cX2_pricesBy 8 = .ok (.istore 4, 2) := by decide +kernel
theorem dX2_pricesBy_10 : decode cX2_pricesBy 10 = .ok (.iload 4, 2) := by decide +kernel
theorem dX2_pricesBy_12 : decode cX2_pricesBy 12 = .ok (.bipush 8, 2) := by decide +kernel
theorem dX2_pricesBy_14 : decode cX2_pricesBy 14 = .ok (.if_icmp .ge 28, 3) := by decide +kernel
theorem dX2_pricesBy_17 : decode cX2_pricesBy 17 = .ok (.iload_n 1, 1) := by decide +kernel
theorem dX2_pricesBy_18 : decode cX2_pricesBy 18 = .ok (.iload 4, 2) := by decide +kernel
theorem dX2_pricesBy_20 : decode cX2_pricesBy 20 = .ok (.ishr, 1) := by decide +kernel
theorem dX2_pricesBy_21 : decode cX2_pricesBy 21 = .ok (.iconst 1, 1) := by decide +kernel
theorem dX2_pricesBy_22 : decode cX2_pricesBy 22 = .ok (.iand, 1) := by decide +kernel
theorem dX2_pricesBy_23 : decode cX2_pricesBy 23 = .ok (.ifCond .eq 13, 3) := by decide +kernel
theorem dX2_pricesBy_26 : decode cX2_pricesBy 26 = .ok (.iload_n 3, 1) := by decide +kernel
theorem dX2_pricesBy_27 : decode cX2_pricesBy 27 = .ok (.aload_n 0, 1) := by decide +kernel
theorem dX2_pricesBy_28 : decode cX2_pricesBy 28 = .ok (.getfield 30, 3) := by decide +kernel
theorem dX2_pricesBy_31 : decode cX2_pricesBy 31 = .ok (.iload 4, 2) := by decide +kernel
theorem dX2_pricesBy_33 : decode cX2_pricesBy 33 = .ok (.iaload, 1) := by decide +kernel
theorem dX2_pricesBy_34 : decode cX2_pricesBy 34 = .ok (.iadd, 1) := by decide +kernel
theorem dX2_pricesBy_35 : decode cX2_pricesBy 35 = .ok (.istore_n 3, 1) := by decide +kernel
theorem dX2_pricesBy_36 : decode cX2_pricesBy 36 = .ok (.iinc 4 1, 3) := by decide +kernel
theorem dX2_pricesBy_39 : decode cX2_pricesBy 39 = .ok (.goto (-29), 3) := by decide +kernel
theorem dX2_pricesBy_42 : decode cX2_pricesBy 42 = .ok (.aload_n 0, 1) := by decide +kernel
theorem dX2_pricesBy_43 : decode cX2_pricesBy 43 = .ok (.getfield 21, 3) := by decide +kernel
theorem dX2_pricesBy_46 : decode cX2_pricesBy 46 = .ok (.iload_n 2, 1) := by decide +kernel
theorem dX2_pricesBy_47 : decode cX2_pricesBy 47 = .ok (.iaload, 1) := by decide +kernel
theorem dX2_pricesBy_48 : decode cX2_pricesBy 48 = .ok (.iconst 0, 1) := by decide +kernel
theorem dX2_pricesBy_49 : decode cX2_pricesBy 49 = .ok (.iload_n 3, 1) := by decide +kernel
theorem dX2_pricesBy_50 : decode cX2_pricesBy 50 = .ok (.aload_n 0, 1) := by decide +kernel
theorem dX2_pricesBy_51 : decode cX2_pricesBy 51 = .ok (.getfield 18, 3) := by decide +kernel
theorem dX2_pricesBy_54 : decode cX2_pricesBy 54 = .ok (.iload_n 2, 1) := by decide +kernel
theorem dX2_pricesBy_55 : decode cX2_pricesBy 55 = .ok (.iaload, 1) := by decide +kernel
theorem dX2_pricesBy_56 : decode cX2_pricesBy 56 = .ok (.isub, 1) := by decide +kernel
theorem dX2_pricesBy_57 : decode cX2_pricesBy 57 = .ok (.invokestatic 83, 3) := by decide +kernel
theorem dX2_pricesBy_60 : decode cX2_pricesBy 60 = .ok (.imul, 1) := by decide +kernel
theorem dX2_pricesBy_61 : decode cX2_pricesBy 61 = .ok (.aload_n 0, 1) := by decide +kernel
theorem dX2_pricesBy_62 : decode cX2_pricesBy 62 = .ok (.getfield 33, 3) := by decide +kernel
theorem dX2_pricesBy_65 : decode cX2_pricesBy 65 = .ok (.iload_n 1, 1) := by decide +kernel
theorem dX2_pricesBy_66 : decode cX2_pricesBy 66 = .ok (.iconst 1, 1) := by decide +kernel
theorem dX2_pricesBy_67 : decode cX2_pricesBy 67 = .ok (.iload_n 2, 1) := by decide +kernel
theorem dX2_pricesBy_68 : decode cX2_pricesBy 68 = .ok (.ishl, 1) := by decide +kernel
theorem dX2_pricesBy_69 : decode cX2_pricesBy 69 = .ok (.ior, 1) := by decide +kernel
theorem dX2_pricesBy_70 : decode cX2_pricesBy 70 = .ok (.iaload, 1) := by decide +kernel
theorem dX2_pricesBy_71 : decode cX2_pricesBy 71 = .ok (.iadd, 1) := by decide +kernel
theorem dX2_pricesBy_72 : decode cX2_pricesBy 72 = .ok (.ireturn, 1) := by decide +kernel
theorem dX3_init_0 : decode cX3_init 0 = .ok (.aload_n 0, 1) := by decide +kernel
theorem dX3_init_1 : decode cX3_init 1 = .ok (.invokespecial 3, 3) := by decide +kernel
theorem dX3_init_4 : decode cX3_init 4 = .ok (.aload_n 0, 1) := by decide +kernel
theorem dX3_init_5 : decode cX3_init 5 = .ok (.bipush 6, 2) := by decide +kernel
theorem dX3_init_7 : decode cX3_init 7 = .ok (.newarray .int, 2) := by decide +kernel
theorem dX3_init_9 : decode cX3_init 9 = .ok (.putfield 9, 3) := by decide +kernel
theorem dX3_init_12 : decode cX3_init 12 = .ok (.aload_n 0, 1) := by decide +kernel
theorem dX3_init_13 : decode cX3_init 13 = .ok (.bipush 100, 2) := by decide +kernel
theorem dX3_init_15 : decode cX3_init 15 = .ok (.newarray .int, 2) := by decide +kernel
theorem dX3_init_17 : decode cX3_init 17 = .ok (.putfield 15, 3) := by decide +kernel
theorem dX3_init_20 : decode cX3_init 20 = .ok (.aload_n 0, 1) := by decide +kernel
theorem dX3_init_21 : decode cX3_init 21 = .ok (.bipush 6, 2) := by decide +kernel
theorem dX3_init_23 : decode cX3_init 23 = .ok (.newarray .int, 2) := by decide +kernel
theorem dX3_init_25 : decode cX3_init 25 = .ok (.putfield 18, 3) := by decide +kernel
theorem dX3_init_28 : decode cX3_init 28 = .ok (.aload_n 0, 1) := by decide +kernel
theorem dX3_init_29 : decode cX3_init 29 = .ok (.bipush 6, 2) := by decide +kernel
theorem dX3_init_31 : decode cX3_init 31 = .ok (.newarray .int, 2) := by decide +kernel
theorem dX3_init_33 : decode cX3_init 33 = .ok (.putfield 21, 3) := by decide +kernel
theorem dX3_init_36 : decode cX3_init 36 = .ok (.aload_n 0, 1) := by decide +kernel
theorem dX3_init_37 : decode cX3_init 37 = .ok (.bipush 84, 2) := by decide +kernel
theorem dX3_init_39 : decode cX3_init 39 = .ok (.newarray .int, 2) := by decide +kernel
theorem dX3_init_41 : decode cX3_init 41 = .ok (.putfield 24, 3) := by decide +kernel
theorem dX3_init_44 : decode cX3_init 44 = .ok (.aload_n 0, 1) := by decide +kernel
theorem dX3_init_45 : decode cX3_init 45 = .ok (.bipush 84, 2) := by decide +kernel
theorem dX3_init_47 : decode cX3_init 47 = .ok (.newarray .int, 2) := by decide +kernel
theorem dX3_init_49 : decode cX3_init 49 = .ok (.putfield 27, 3) := by decide +kernel
theorem dX3_init_52 : decode cX3_init 52 = .ok (.aload_n 0, 1) := by decide +kernel
theorem dX3_init_53 : decode cX3_init 53 = .ok (.bipush 84, 2) := by decide +kernel
theorem dX3_init_55 : decode cX3_init 55 = .ok (.newarray .int, 2) := by decide +kernel
theorem dX3_init_57 : decode cX3_init 57 = .ok (.putfield 30, 3) := by decide +kernel
theorem dX3_init_60 : decode cX3_init 60 = .ok (.aload_n 0, 1) := by decide +kernel
theorem dX3_init_61 : decode cX3_init 61 = .ok (.sipush 20000, 3) := by decide +kernel
theorem dX3_init_64 : decode cX3_init 64 = .ok (.newarray .int, 2) := by decide +kernel
theorem dX3_init_66 : decode cX3_init 66 = .ok (.putfield 33, 3) := by decide +kernel
theorem dX3_init_69 : decode cX3_init 69 = .ok (.aload_n 0, 1) := by decide +kernel
theorem dX3_init_70 : decode cX3_init 70 = .ok (.sipush 20000, 3) := by decide +kernel
theorem dX3_init_73 : decode cX3_init 73 = .ok (.newarray .int, 2) := by decide +kernel
theorem dX3_init_75 : decode cX3_init 75 = .ok (.putfield 36, 3) := by decide +kernel
theorem dX3_init_78 : decode cX3_init 78 = .ok (.aload_n 0, 1) := by decide +kernel
theorem dX3_init_79 : decode cX3_init 79 = .ok (.aload_n 1, 1) := by decide +kernel
theorem dX3_init_80 : decode cX3_init 80 = .ok (.putfield 39, 3) := by decide +kernel
theorem dX3_init_83 : decode cX3_init 83 = .ok (.aload_n 0, 1) := by decide +kernel
theorem dX3_init_84 : decode cX3_init 84 = .ok (.aload_n 2, 1) := by decide +kernel
theorem dX3_init_85 : decode cX3_init 85 = .ok (.putfield 43, 3) := by decide +kernel
theorem dX3_init_88 : decode cX3_init 88 = .ok (.iconst 0, 1) := by decide +kernel
theorem dX3_init_89 : decode cX3_init 89 = .ok (.istore_n 3, 1) := by decide +kernel
theorem dX3_init_90 : decode cX3_init 90 = .ok (.iload_n 3, 1) := by decide +kernel
theorem dX3_init_91 : decode cX3_init 91 = .ok (.bipush 84, 2) := by decide +kernel
theorem dX3_init_93 : decode cX3_init 93 = .ok (.if_icmp .ge 104, 3) := by decide +kernel
theorem dX3_init_96 : decode cX3_init 96 = .ok (.iload_n 3, 1) := by decide +kernel
theorem dX3_init_97 : decode cX3_init 97 = .ok (.bipush 12, 2) := by decide +kernel
theorem dX3_init_99 : decode cX3_init 99 = .ok (.isub, 1) := by decide +kernel
theorem dX3_init_100 : decode cX3_init 100 = .ok (.iconst 0, 1) := by decide +kernel
theorem dX3_init_101 : decode cX3_init 101 = .ok (.invokestatic 47, 3) := by decide +kernel
theorem dX3_init_104 : decode cX3_init 104 = .ok (.bipush 36, 2) := by decide +kernel
theorem dX3_init_106 : decode cX3_init 106 = .ok (.irem, 1) := by decide +kernel
theorem dX3_init_107 : decode cX3_init 107 = .ok (.istore 4, 2) := by decide +kernel
theorem dX3_init_109 : decode cX3_init 109 = .ok (.aload_n 0, 1) := by decide +kernel
theorem dX3_init_110 : decode cX3_init 110 = .ok (.getfield 24, 3) := by decide +kernel
theorem dX3_init_113 : decode cX3_init 113 = .ok (.iload_n 3, 1) := by decide +kernel
theorem dX3_init_114 : decode cX3_init 114 = .ok (.iload_n 3, 1) := by decide +kernel
theorem dX3_init_115 : decode cX3_init 115 = .ok (.bipush 6, 2) := by decide +kernel
theorem dX3_init_117 : decode cX3_init 117 = .ok (.if_icmp .ge 7, 3) := by decide +kernel
theorem dX3_init_120 : decode cX3_init 120 = .ok (.iconst 0, 1) := by decide +kernel
theorem dX3_init_121 : decode cX3_init 121 = .ok (.goto 24, 3) := by decide +kernel
theorem dX3_init_124 : decode cX3_init 124 = .ok (.iload_n 3, 1) := by decide +kernel
theorem dX3_init_125 : decode cX3_init 125 = .ok (.bipush 12, 2) := by decide +kernel
theorem dX3_init_127 : decode cX3_init 127 = .ok (.if_icmp .ge 7, 3) := by decide +kernel
theorem dX3_init_130 : decode cX3_init 130 = .ok (.iconst 1, 1) := by decide +kernel
theorem dX3_init_131 : decode cX3_init 131 = .ok (.goto 14, 3) := by decide +kernel
theorem dX3_init_134 : decode cX3_init 134 = .ok (.iload_n 3, 1) := by decide +kernel
theorem dX3_init_135 : decode cX3_init 135 = .ok (.bipush 48, 2) := by decide +kernel
theorem dX3_init_137 : decode cX3_init 137 = .ok (.if_icmp .ge 7, 3) := by decide +kernel
theorem dX3_init_140 : decode cX3_init 140 = .ok (.iconst 2, 1) := by decide +kernel
theorem dX3_init_141 : decode cX3_init 141 = .ok (.goto 4, 3) := by decide +kernel
theorem dX3_init_144 : decode cX3_init 144 = .ok (.iconst 3, 1) := by decide +kernel
theorem dX3_init_145 : decode cX3_init 145 = .ok (.iastore, 1) := by decide +kernel
theorem dX3_init_146 : decode cX3_init 146 = .ok (.aload_n 0, 1) := by decide +kernel
theorem dX3_init_147 : decode cX3_init 147 = .ok (.getfield 27, 3) := by decide +kernel
theorem dX3_init_150 : decode cX3_init 150 = .ok (.iload_n 3, 1) := by decide +kernel
theorem dX3_init_151 : decode cX3_init 151 = .ok (.iload_n 3, 1) := by decide +kernel
theorem dX3_init_152 : decode cX3_init 152 = .ok (.bipush 12, 2) := by decide +kernel
theorem dX3_init_154 : decode cX3_init 154 = .ok (.if_icmp .ge 10, 3) := by decide +kernel
theorem dX3_init_157 : decode cX3_init 157 = .ok (.iload_n 3, 1) := by decide +kernel
theorem dX3_init_158 : decode cX3_init 158 = .ok (.bipush 6, 2) := by decide +kernel
theorem dX3_init_160 : decode cX3_init 160 = .ok (.irem, 1) := by decide +kernel
theorem dX3_init_161 : decode cX3_init 161 = .ok (.goto 8, 3) := by decide +kernel
theorem dX3_init_164 : decode cX3_init 164 = .ok (.iload 4, 2) := by decide +kernel
theorem dX3_init_166 : decode cX3_init 166 = .ok (.bipush 6, 2) := by decide +kernel
theorem dX3_init_168 : decode cX3_init 168 = .ok (.idiv, 1) := by decide +kernel
theorem dX3_init_169 : decode cX3_init 169 = .ok (.iastore, 1) := by decide +kernel
theorem dX3_init_170 : decode cX3_init 170 = .ok (.aload_n 0, 1) := by decide +kernel
theorem dX3_init_171 : decode cX3_init 171 = .ok (.getfield 30, 3) := by decide +kernel
theorem dX3_init_174 : decode cX3_init 174 = .ok (.iload_n 3, 1) := by decide +kernel
theorem dX3_init_175 : decode cX3_init 175 = .ok (.iload_n 3, 1) := by decide +kernel
theorem dX3_init_176 : decode cX3_init 176 = .ok (.bipush 12, 2) := by decide +kernel
theorem dX3_init_178 : decode cX3_init 178 = .ok (.if_icmp .ge 7, 3) := by decide +kernel
theorem dX3_init_181 : decode cX3_init 181 = .ok (.iconst 0, 1) := by decide +kernel
theorem dX3_init_182 : decode cX3_init 182 = .ok (.goto 8, 3) := by decide +kernel
theorem dX3_init_185 : decode cX3_init 185 = .ok (.iload 4, 2) := by decide +kernel
theorem dX3_init_187 : decode cX3_init 187 = .ok (.bipush 6, 2) := by decide +kernel
theorem dX3_init_189 : decode cX3_init 189 = .ok (.irem, 1) := by decide +kernel
theorem dX3_init_190 : decode cX3_init 190 = .ok (.iastore, 1) := by decide +kernel
theorem dX3_init_191 : decode cX3_init 191 = .ok (.iinc 3 1, 3) := by decide +kernel
theorem dX3_init_194 : decode cX3_init 194 = .ok (.goto (-104), 3) := by decide +kernel
theorem dX3_init_197 : decode cX3_init 197 = .ok (.return_, 1) := by decide +kernel
theorem dX3_canSeek_0 : decode cX3_canSeek 0 = .ok (.aload_n 0, 1) := by decide +kernel
theorem dX3_canSeek_1 : decode cX3_canSeek 1 = .ok (.invokevirtual 53, 3) := by decide +kernel
theorem dX3_canSeek_4 : decode cX3_canSeek 4 = .ok (.ifCond .le 21, 3) := by decide +kernel
theorem dX3_canSeek_7 : decode cX3_canSeek 7 = .ok (.aload_n 0, 1) := by decide +kernel
theorem dX3_canSeek_8 : decode cX3_canSeek 8 = .ok (.getfield 39, 3) := by decide +kernel
theorem dX3_canSeek_11 : decode cX3_canSeek 11 = .ok (.aload_n 0, 1) := by decide +kernel
theorem dX3_canSeek_12 : decode cX3_canSeek 12 = .ok (.getfield 9, 3) := by decide +kernel
theorem dX3_canSeek_15 : decode cX3_canSeek 15 = .ok (.invokevirtual 57, 3) := by decide +kernel
theorem dX3_canSeek_18 : decode cX3_canSeek 18 = .ok (.ifCond .eq 7, 3) := by decide +kernel
theorem dX3_canSeek_21 : decode cX3_canSeek 21 = .ok (.iconst 1, 1) := by decide +kernel
theorem dX3_canSeek_22 : decode cX3_canSeek 22 = .ok (.goto 4, 3) := by decide +kernel
theorem dX3_canSeek_25 : decode cX3_canSeek 25 = .ok (.iconst 0, 1) := by decide +kernel
theorem dX3_canSeek_26 : decode cX3_canSeek 26 = .ok (.ireturn, 1) := by decide +kernel
theorem dX3_standings_0 : decode cX3_standings 0 = .ok (.iconst 1, 1) := by decide +kernel
theorem dX3_standings_1 : decode cX3_standings 1 = .ok (.istore_n 1, 1) := by decide +kernel
theorem dX3_standings_2 : decode cX3_standings 2 = .ok (.iconst 0, 1) := by decide +kernel
theorem dX3_standings_3 : decode cX3_standings 3 = .ok (.istore_n 2, 1) := by decide +kernel
theorem dX3_standings_4 : decode cX3_standings 4 = .ok (.iload_n 2, 1) := by decide +kernel
theorem dX3_standings_5 : decode cX3_standings 5 = .ok (.bipush 6, 2) := by decide +kernel
theorem dX3_standings_7 : decode cX3_standings 7 = .ok (.if_icmp .ge 39, 3) := by decide +kernel
theorem dX3_standings_10 : decode cX3_standings 10 = .ok (.aload_n 0, 1) := by decide +kernel
theorem dX3_standings_11 : decode cX3_standings 11 = .ok (.getfield 21, 3) := by decide +kernel
theorem dX3_standings_14 : decode cX3_standings 14 = .ok (.iload_n 2, 1) := by decide +kernel
theorem dX3_standings_15 : decode cX3_standings 15 = .ok (.iload_n 1, 1) := by decide +kernel
theorem dX3_standings_16 : decode cX3_standings 16 = .ok (.iastore, 1) := by decide +kernel
theorem dX3_standings_17 : decode cX3_standings 17 = .ok (.iload_n 1, 1) := by decide +kernel
theorem dX3_standings_18 : decode cX3_standings 18 = .ok (.aload_n 0, 1) := by decide +kernel
theorem dX3_standings_19 : decode cX3_standings 19 = .ok (.getfield 39, 3) := by decide +kernel
theorem dX3_standings_22 : decode cX3_standings 22 = .ok (.getfield 63, 3) := by decide +kernel
theorem dX3_standings_25 : decode cX3_standings 25 = .ok (.iload_n 2, 1) := by decide +kernel
theorem dX3_standings_26 : decode cX3_standings 26 = .ok (.iaload, 1) := by decide +kernel
theorem dX3_standings_27 : decode cX3_standings 27 = .ok (.iconst 1, 1) := by decide +kernel
theorem dX3_standings_28 : decode cX3_standings 28 = .ok (.iadd, 1) := by decide +kernel
theorem dX3_standings_29 : decode cX3_standings 29 = .ok (.imul, 1) := by decide +kernel
theorem dX3_standings_30 : decode cX3_standings 30 = .ok (.istore_n 1, 1) := by decide +kernel
theorem dX3_standings_31 : decode cX3_standings 31 = .ok (.iload_n 1, 1) := by decide +kernel
theorem dX3_standings_32 : decode cX3_standings 32 = .ok (.sipush 20000, 3) := by decide +kernel
theorem dX3_standings_35 : decode cX3_standings 35 = .ok (.if_icmp .le 5, 3) := by decide +kernel
theorem dX3_standings_38 : decode cX3_standings 38 = .ok (.iconst 0, 1) := by decide +kernel
theorem dX3_standings_39 : decode cX3_standings 39 = .ok (.ireturn, 1) := by decide +kernel
theorem dX3_standings_40 : decode cX3_standings 40 = .ok (.iinc 2 1, 3) := by decide +kernel
theorem dX3_standings_43 : decode cX3_standings 43 = .ok (.goto (-39), 3) := by decide +kernel
theorem dX3_standings_46 : decode cX3_standings 46 = .ok (.iload_n 1, 1) := by decide +kernel
theorem dX3_standings_47 : decode cX3_standings 47 = .ok (.ireturn, 1) := by decide +kernel
theorem dX3_indexOf_0 : decode cX3_indexOf 0 = .ok (.iconst 0, 1) := by decide +kernel
theorem dX3_indexOf_1 : decode cX3_indexOf 1 = .ok (.istore_n 2, 1) := by decide +kernel
theorem dX3_indexOf_2 : decode cX3_indexOf 2 = .ok (.iconst 0, 1) := by decide +kernel
theorem dX3_indexOf_3 : decode cX3_indexOf 3 = .ok (.istore_n 3, 1) := by decide +kernel
theorem dX3_indexOf_4 : decode cX3_indexOf 4 = .ok (.iload_n 3, 1) := by decide +kernel
theorem dX3_indexOf_5 : decode cX3_indexOf 5 = .ok (.bipush 6, 2) := by decide +kernel
theorem dX3_indexOf_7 : decode cX3_indexOf 7 = .ok (.if_icmp .ge 22, 3) := by decide +kernel
theorem dX3_indexOf_10 : decode cX3_indexOf 10 = .ok (.iload_n 2, 1) := by decide +kernel
theorem dX3_indexOf_11 : decode cX3_indexOf 11 = .ok (.aload_n 0, 1) := by decide +kernel
theorem dX3_indexOf_12 : decode cX3_indexOf 12 = .ok (.getfield 21, 3) := by decide +kernel
theorem dX3_indexOf_15 : decode cX3_indexOf 15 = .ok (.iload_n 3, 1) := by decide +kernel
theorem dX3_indexOf_16 : decode cX3_indexOf 16 = .ok (.iaload, 1) := by decide +kernel
theorem dX3_indexOf_17 : decode cX3_indexOf 17 = .ok (.aload_n 1, 1) := by decide +kernel
theorem dX3_indexOf_18 : decode cX3_indexOf 18 = .ok (.iload_n 3, 1) := by decide +kernel
theorem dX3_indexOf_19 : decode cX3_indexOf 19 = .ok (.iaload, 1) := by decide +kernel
theorem dX3_indexOf_20 : decode cX3_indexOf 20 = .ok (.imul, 1) := by decide +kernel
theorem dX3_indexOf_21 : decode cX3_indexOf 21 = .ok (.iadd, 1) := by decide +kernel
theorem dX3_indexOf_22 : decode cX3_indexOf 22 = .ok (.istore_n 2, 1) := by decide +kernel
theorem dX3_indexOf_23 : decode cX3_indexOf 23 = .ok (.iinc 3 1, 3) := by decide +kernel
theorem dX3_indexOf_26 : decode cX3_indexOf 26 = .ok (.goto (-22), 3) := by decide +kernel
theorem dX3_indexOf_29 : decode cX3_indexOf 29 = .ok (.iload_n 2, 1) := by decide +kernel
theorem dX3_indexOf_30 : decode cX3_indexOf 30 = .ok (.ireturn, 1) := by decide +kernel
theorem dX3_unfold_0 : decode cX3_unfold 0 = .ok (.iload_n 1, 1) := by decide +kernel
theorem dX3_unfold_1 : decode cX3_unfold 1 = .ok (.istore_n 2, 1) := by decide +kernel
theorem dX3_unfold_2 : decode cX3_unfold 2 = .ok (.iconst 0, 1) := by decide +kernel
theorem dX3_unfold_3 : decode cX3_unfold 3 = .ok (.istore_n 3, 1) := by decide +kernel
theorem dX3_unfold_4 : decode cX3_unfold 4 = .ok (.iload_n 3, 1) := by decide +kernel
theorem dX3_unfold_5 : decode cX3_unfold 5 = .ok (.bipush 6, 2) := by decide +kernel
theorem dX3_unfold_7 : decode cX3_unfold 7 = .ok (.if_icmp .ge 55, 3) := by decide +kernel
theorem dX3_unfold_10 : decode cX3_unfold 10 = .ok (.aload_n 0, 1) := by decide +kernel
theorem dX3_unfold_11 : decode cX3_unfold 11 = .ok (.getfield 39, 3) := by decide +kernel
theorem dX3_unfold_14 : decode cX3_unfold 14 = .ok (.getfield 63, 3) := by decide +kernel
theorem dX3_unfold_17 : decode cX3_unfold 17 = .ok (.iload_n 3, 1) := by decide +kernel
theorem dX3_unfold_18 : decode cX3_unfold 18 = .ok (.iaload, 1) := by decide +kernel
theorem dX3_unfold_19 : decode cX3_unfold 19 = .ok (.iconst 1, 1) := by decide +kernel
theorem dX3_unfold_20 : decode cX3_unfold 20 = .ok (.iadd, 1) := by decide +kernel
theorem dX3_unfold_21 : decode cX3_unfold 21 = .ok (.istore 4, 2) := by decide +kernel
theorem dX3_unfold_23 : decode cX3_unfold 23 = .ok (.aload_n 0, 1) := by decide +kernel
theorem dX3_unfold_24 : decode cX3_unfold 24 = .ok (.getfield 18, 3) := by decide +kernel
theorem dX3_unfold_27 : decode cX3_unfold 27 = .ok (.iload_n 3, 1) := by decide +kernel
theorem dX3_unfold_28 : decode cX3_unfold 28 = .ok (.iload 4, 2) := by decide +kernel
theorem dX3_unfold_30 : decode cX3_unfold 30 = .ok (.ifCond .le 10, 3) := by decide +kernel
theorem dX3_unfold_33 : decode cX3_unfold 33 = .ok (.iload_n 2, 1) := by decide +kernel
theorem dX3_unfold_34 : decode cX3_unfold 34 = .ok (.iload 4, 2) := by decide +kernel
theorem dX3_unfold_36 : decode cX3_unfold 36 = .ok (.irem, 1) := by decide +kernel
theorem dX3_unfold_37 : decode cX3_unfold 37 = .ok (.goto 4, 3) := by decide +kernel
theorem dX3_unfold_40 : decode cX3_unfold 40 = .ok (.iconst 0, 1) := by decide +kernel
theorem dX3_unfold_41 : decode cX3_unfold 41 = .ok (.iastore, 1) := by decide +kernel
theorem dX3_unfold_42 : decode cX3_unfold 42 = .ok (.iload 4, 2) := by decide +kernel
theorem dX3_unfold_44 : decode cX3_unfold 44 = .ok (.ifCond .le 10, 3) := by decide +kernel
theorem dX3_unfold_47 : decode cX3_unfold 47 = .ok (.iload_n 2, 1) := by decide +kernel
theorem dX3_unfold_48 : decode cX3_unfold 48 = .ok (.iload 4, 2) := by decide +kernel
theorem dX3_unfold_50 : decode cX3_unfold 50 = .ok (.idiv, 1) := by decide +kernel
theorem dX3_unfold_51 : decode cX3_unfold 51 = .ok (.goto 4, 3) := by decide +kernel
theorem dX3_unfold_54 : decode cX3_unfold 54 = .ok (.iconst 0, 1) := by decide +kernel
theorem dX3_unfold_55 : decode cX3_unfold 55 = .ok (.istore_n 2, 1) := by decide +kernel
theorem dX3_unfold_56 : decode cX3_unfold 56 = .ok (.iinc 3 1, 3) := by decide +kernel
theorem dX3_unfold_59 : decode cX3_unfold 59 = .ok (.goto (-55), 3) := by decide +kernel
theorem dX3_unfold_62 : decode cX3_unfold 62 = .ok (.return_, 1) := by decide +kernel
theorem dX3_seek_0 : decode cX3_seek 0 = .ok (.aload_n 0, 1) := by decide +kernel
theorem dX3_seek_1 : decode cX3_seek 1 = .ok (.getfield 33, 3) := by decide +kernel
theorem dX3_seek_4 : decode cX3_seek 4 = .ok (.iconst 0, 1) := by decide +kernel
theorem dX3_seek_5 : decode cX3_seek 5 = .ok (.aload_n 0, 1) := by decide +kernel
theorem dX3_seek_6 : decode cX3_seek 6 = .ok (.invokevirtual 53, 3) := by decide +kernel
theorem dX3_seek_9 : decode cX3_seek 9 = .ok (.iconst 0, 1) := by decide +kernel
theorem dX3_seek_10 : decode cX3_seek 10 = .ok (.invokestatic 66, 3) := by decide +kernel
theorem dX3_seek_13 : decode cX3_seek 13 = .ok (.aload_n 0, 1) := by decide +kernel
theorem dX3_seek_14 : decode cX3_seek 14 = .ok (.aload_n 0, 1) := by decide +kernel
theorem dX3_seek_15 : decode cX3_seek 15 = .ok (.getfield 39, 3) := by decide +kernel
theorem dX3_seek_18 : decode cX3_seek 18 = .ok (.getfield 72, 3) := by decide +kernel
theorem dX3_seek_21 : decode cX3_seek 21 = .ok (.invokevirtual 75, 3) := by decide +kernel
theorem dX3_seek_24 : decode cX3_seek 24 = .ok (.istore_n 1, 1) := by decide +kernel
theorem dX3_seek_25 : decode cX3_seek 25 = .ok (.aload_n 0, 1) := by decide +kernel
theorem dX3_seek_26 : decode cX3_seek 26 = .ok (.aload_n 0, 1) := by decide +kernel
theorem dX3_seek_27 : decode cX3_seek 27 = .ok (.getfield 9, 3) := by decide +kernel
theorem dX3_seek_30 : decode cX3_seek 30 = .ok (.invokevirtual 75, 3) := by decide +kernel
theorem dX3_seek_33 : decode cX3_seek 33 = .ok (.istore_n 2, 1) := by decide +kernel
theorem dX3_seek_34 : decode cX3_seek 34 = .ok (.iload_n 1, 1) := by decide +kernel
theorem dX3_seek_35 : decode cX3_seek 35 = .ok (.iload_n 2, 1) := by decide +kernel
theorem dX3_seek_36 : decode cX3_seek 36 = .ok (.if_icmp .ne 5, 3) := by decide +kernel
theorem dX3_seek_39 : decode cX3_seek 39 = .ok (.iconst 0, 1) := by decide +kernel
theorem dX3_seek_40 : decode cX3_seek 40 = .ok (.ireturn, 1) := by decide +kernel
theorem dX3_seek_41 : decode cX3_seek 41 = .ok (.aload_n 0, 1) := by decide +kernel
theorem dX3_seek_42 : decode cX3_seek 42 = .ok (.getfield 33, 3) := by decide +kernel
theorem dX3_seek_45 : decode cX3_seek 45 = .ok (.iload_n 1, 1) := by decide +kernel
theorem dX3_seek_46 : decode cX3_seek 46 = .ok (.iconst (-1), 1) := by decide +kernel
theorem dX3_seek_47 : decode cX3_seek 47 = .ok (.iastore, 1) := by decide +kernel
theorem dX3_seek_48 : decode cX3_seek 48 = .ok (.aload_n 0, 1) := by decide +kernel
theorem dX3_seek_49 : decode cX3_seek 49 = .ok (.getfield 36, 3) := by decide +kernel
theorem dX3_seek_52 : decode cX3_seek 52 = .ok (.iconst 0, 1) := by decide +kernel
theorem dX3_seek_53 : decode cX3_seek 53 = .ok (.iload_n 1, 1) := by decide +kernel
theorem dX3_seek_54 : decode cX3_seek 54 = .ok (.iastore, 1) := by decide +kernel
theorem dX3_seek_55 : decode cX3_seek 55 = .ok (.aload_n 0, 1) := by decide +kernel
theorem dX3_seek_56 : decode cX3_seek 56 = .ok (.iconst 1, 1) := by decide +kernel
theorem dX3_seek_57 : decode cX3_seek 57 = .ok (.putfield 79, 3) := by decide +kernel
theorem dX3_seek_60 : decode cX3_seek 60 = .ok (.aload_n 0, 1) := by decide +kernel
theorem dX3_seek_61 : decode cX3_seek 61 = .ok (.getfield 43, 3) := by decide +kernel
theorem dX3_seek_64 : decode cX3_seek 64 = .ok (.aload_n 0, 1) := by decide +kernel
theorem dX3_seek_65 : decode cX3_seek 65 = .ok (.getfield 39, 3) := by decide +kernel
theorem dX3_seek_68 : decode cX3_seek 68 = .ok (.getfield 72, 3) := by decide +kernel
theorem dX3_seek_71 : decode cX3_seek 71 = .ok (.iconst 0, 1) := by decide +kernel
theorem dX3_seek_72 : decode cX3_seek 72 = .ok (.invokevirtual 83, 3) := by decide +kernel
theorem dX3_seek_75 : decode cX3_seek 75 = .ok (.iconst 0, 1) := by decide +kernel
theorem dX3_seek_76 : decode cX3_seek 76 = .ok (.istore_n 3, 1) := by decide +kernel
theorem dX3_seek_77 : decode cX3_seek 77 = .ok (.iconst 1, 1) := by decide +kernel
theorem dX3_seek_78 : decode cX3_seek 78 = .ok (.istore 4, 2) := by decide +kernel
theorem dX3_seek_80 : decode cX3_seek 80 = .ok (.iload 4, 2) := by decide +kernel
theorem dX3_seek_82 : decode cX3_seek 82 = .ok (.bipush 100, 2) := by decide +kernel
theorem dX3_seek_84 : decode cX3_seek 84 = .ok (.if_icmp .gt 67, 3) := by decide +kernel
theorem dX3_seek_87 : decode cX3_seek 87 = .ok (.iload_n 3, 1) := by decide +kernel
theorem dX3_seek_88 : decode cX3_seek 88 = .ok (.aload_n 0, 1) := by decide +kernel
theorem dX3_seek_89 : decode cX3_seek 89 = .ok (.getfield 79, 3) := by decide +kernel
theorem dX3_seek_92 : decode cX3_seek 92 = .ok (.if_icmp .ge 59, 3) := by decide +kernel
theorem dX3_seek_95 : decode cX3_seek 95 = .ok (.aload_n 0, 1) := by decide +kernel
theorem dX3_seek_96 : decode cX3_seek 96 = .ok (.getfield 79, 3) := by decide +kernel
theorem dX3_seek_99 : decode cX3_seek 99 = .ok (.istore 5, 2) := by decide +kernel
theorem dX3_seek_101 : decode cX3_seek 101 = .ok (.iload_n 3, 1) := by decide +kernel
theorem dX3_seek_102 : decode cX3_seek 102 = .ok (.istore 6, 2) := by decide +kernel
theorem dX3_seek_104 : decode cX3_seek 104 = .ok (.iload 6, 2) := by decide +kernel
theorem dX3_seek_106 : decode cX3_seek 106 = .ok (.iload 5, 2) := by decide +kernel
theorem dX3_seek_108 : decode cX3_seek 108 = .ok (.if_icmp .ge 34, 3) := by decide +kernel
theorem dX3_seek_111 : decode cX3_seek 111 = .ok (.aload_n 0, 1) := by decide +kernel
theorem dX3_seek_112 : decode cX3_seek 112 = .ok (.aload_n 0, 1) := by decide +kernel
theorem dX3_seek_113 : decode cX3_seek 113 = .ok (.getfield 36, 3) := by decide +kernel
theorem dX3_seek_116 : decode cX3_seek 116 = .ok (.iload 6, 2) := by decide +kernel
theorem dX3_seek_118 : decode cX3_seek 118 = .ok (.iaload, 1) := by decide +kernel
theorem dX3_seek_119 : decode cX3_seek 119 = .ok (.iload_n 2, 1) := by decide +kernel
theorem dX3_seek_120 : decode cX3_seek 120 = .ok (.invokevirtual 89, 3) := by decide +kernel
theorem dX3_seek_123 : decode cX3_seek 123 = .ok (.ifCond .eq 13, 3) := by decide +kernel
theorem dX3_seek_126 : decode cX3_seek 126 = .ok (.aload_n 0, 1) := by decide +kernel
theorem dX3_seek_127 : decode cX3_seek 127 = .ok (.iload_n 2, 1) := by decide +kernel
theorem dX3_seek_128 : decode cX3_seek 128 = .ok (.iload 4, 2) := by decide +kernel
theorem dX3_seek_130 : decode cX3_seek 130 = .ok (.invokevirtual 93, 3) := by decide +kernel
theorem dX3_seek_133 : decode cX3_seek 133 = .ok (.iload 4, 2) := by decide +kernel
theorem dX3_seek_135 : decode cX3_seek 135 = .ok (.ireturn, 1) := by decide +kernel
theorem dX3_seek_136 : decode cX3_seek 136 = .ok (.iinc 6 1, 3) := by decide +kernel
theorem dX3_seek_139 : decode cX3_seek 139 = .ok (.goto (-35), 3) := by decide +kernel
theorem dX3_seek_142 : decode cX3_seek 142 = .ok (.iload 5, 2) := by decide +kernel
theorem dX3_seek_144 : decode cX3_seek 144 = .ok (.istore_n 3, 1) := by decide +kernel
theorem dX3_seek_145 : decode cX3_seek 145 = .ok (.iinc 4 1, 3) := by decide +kernel
theorem dX3_seek_148 : decode cX3_seek 148 = .ok (.goto (-68), 3) := by decide +kernel
theorem dX3_seek_151 : decode cX3_seek 151 = .ok (.iconst (-1), 1) := by decide +kernel
theorem dX3_seek_152 : decode cX3_seek 152 = .ok (.ireturn, 1) := by decide +kernel
theorem dX3_goFrom_0 : decode cX3_goFrom 0 = .ok (.iconst 0, 1) := by decide +kernel
theorem dX3_goFrom_1 : decode cX3_goFrom 1 = .ok (.istore_n 3, 1) := by decide +kernel
theorem dX3_goFrom_2 : decode cX3_goFrom 2 = .ok (.aload_n 0, 1) := by decide +kernel
theorem dX3_goFrom_3 : decode cX3_goFrom 3 = .ok (.iload_n 1, 1) := by decide +kernel
theorem dX3_goFrom_4 : decode cX3_goFrom 4 = .ok (.invokevirtual 97, 3) := by decide +kernel
theorem dX3_goFrom_7 : decode cX3_goFrom 7 = .ok (.iconst 0, 1) := by decide +kernel
theorem dX3_goFrom_8 : decode cX3_goFrom 8 = .ok (.istore 4, 2) := by decide +kernel
theorem dX3_goFrom_10 : decode cX3_goFrom 10 = .ok (.iload 4, 2) := by decide +kernel
theorem dX3_goFrom_12 : decode cX3_goFrom 12 = .ok (.bipush 84, 2) := by decide +kernel
theorem dX3_goFrom_14 : decode cX3_goFrom 14 = .ok (.if_icmp .ge 143, 3) := by decide +kernel
theorem dX3_goFrom_17 : decode cX3_goFrom 17 = .ok (.aload_n 0, 1) := by decide +kernel
theorem dX3_goFrom_18 : decode cX3_goFrom 18 = .ok (.aload_n 0, 1) := by decide +kernel
theorem dX3_goFrom_19 : decode cX3_goFrom 19 = .ok (.getfield 24, 3) := by decide +kernel
theorem dX3_goFrom_22 : decode cX3_goFrom 22 = .ok (.iload 4, 2) := by decide +kernel
theorem dX3_goFrom_24 : decode cX3_goFrom 24 = .ok (.iaload, 1) := by decide +kernel
theorem dX3_goFrom_25 : decode cX3_goFrom 25 = .ok (.aload_n 0, 1) := by decide +kernel
theorem dX3_goFrom_26 : decode cX3_goFrom 26 = .ok (.getfield 27, 3) := by decide +kernel
theorem dX3_goFrom_29 : decode cX3_goFrom 29 = .ok (.iload 4, 2) := by decide +kernel
theorem dX3_goFrom_31 : decode cX3_goFrom 31 = .ok (.iaload, 1) := by decide +kernel
theorem dX3_goFrom_32 : decode cX3_goFrom 32 = .ok (.aload_n 0, 1) := by decide +kernel
theorem dX3_goFrom_33 : decode cX3_goFrom 33 = .ok (.getfield 30, 3) := by decide +kernel
theorem dX3_goFrom_36 : decode cX3_goFrom 36 = .ok (.iload 4, 2) := by decide +kernel
theorem dX3_goFrom_38 : decode cX3_goFrom 38 = .ok (.iaload, 1) := by decide +kernel
theorem dX3_goFrom_39 : decode cX3_goFrom 39 = .ok (.invokevirtual 101, 3) := by decide +kernel
theorem dX3_goFrom_42 : decode cX3_goFrom 42 = .ok (.istore 5, 2) := by decide +kernel
theorem dX3_goFrom_44 : decode cX3_goFrom 44 = .ok (.iload 5, 2) := by decide +kernel
theorem dX3_goFrom_46 : decode cX3_goFrom 46 = .ok (.ifCond .eq 7, 3) := by decide +kernel
theorem dX3_goFrom_49 : decode cX3_goFrom 49 = .ok (.iload_n 3, 1) := by decide +kernel
theorem dX3_goFrom_50 : decode cX3_goFrom 50 = .ok (.ifCond .ne 96, 3) := by decide +kernel
theorem dX3_goFrom_53 : decode cX3_goFrom 53 = .ok (.aload_n 0, 1) := by decide +kernel
theorem dX3_goFrom_54 : decode cX3_goFrom 54 = .ok (.getfield 18, 3) := by decide +kernel
theorem dX3_goFrom_57 : decode cX3_goFrom 57 = .ok (.aload_n 0, 1) := by decide +kernel
theorem dX3_goFrom_58 : decode cX3_goFrom 58 = .ok (.getfield 43, 3) := by decide +kernel
theorem dX3_goFrom_61 : decode cX3_goFrom 61 = .ok (.getfield 105, 3) := by decide +kernel
theorem dX3_goFrom_64 : decode cX3_goFrom 64 = .ok (.invokestatic 108, 3) := by decide +kernel
theorem dX3_goFrom_67 : decode cX3_goFrom 67 = .ok (.aload_n 0, 1) := by decide +kernel
theorem dX3_goFrom_68 : decode cX3_goFrom 68 = .ok (.getfield 43, 3) := by decide +kernel
theorem dX3_goFrom_71 : decode cX3_goFrom 71 = .ok (.aload_n 0, 1) := by decide +kernel
theorem dX3_goFrom_72 : decode cX3_goFrom 72 = .ok (.getfield 24, 3) := by decide +kernel
theorem dX3_goFrom_75 : decode cX3_goFrom 75 = .ok (.iload 4, 2) := by decide +kernel
theorem dX3_goFrom_77 : decode cX3_goFrom 77 = .ok (.iaload, 1) := by decide +kernel
theorem dX3_goFrom_78 : decode cX3_goFrom 78 = .ok (.aload_n 0, 1) := by decide +kernel
theorem dX3_goFrom_79 : decode cX3_goFrom 79 = .ok (.getfield 27, 3) := by decide +kernel
theorem dX3_goFrom_82 : decode cX3_goFrom 82 = .ok (.iload 4, 2) := by decide +kernel
theorem dX3_goFrom_84 : decode cX3_goFrom 84 = .ok (.iaload, 1) := by decide +kernel
theorem dX3_goFrom_85 : decode cX3_goFrom 85 = .ok (.aload_n 0, 1) := by decide +kernel
theorem dX3_goFrom_86 : decode cX3_goFrom 86 = .ok (.getfield 30, 3) := by decide +kernel
theorem dX3_goFrom_89 : decode cX3_goFrom 89 = .ok (.iload 4, 2) := by decide +kernel
theorem dX3_goFrom_91 : decode cX3_goFrom 91 = .ok (.iaload, 1) := by decide +kernel
theorem dX3_goFrom_92 : decode cX3_goFrom 92 = .ok (.invokevirtual 112, 3) := by decide +kernel
theorem dX3_goFrom_95 : decode cX3_goFrom 95 = .ok (.aload_n 0, 1) := by decide +kernel
theorem dX3_goFrom_96 : decode cX3_goFrom 96 = .ok (.getfield 43, 3) := by decide +kernel
theorem dX3_goFrom_99 : decode cX3_goFrom 99 = .ok (.invokevirtual 116, 3) := by decide +kernel
theorem dX3_goFrom_102 : decode cX3_goFrom 102 = .ok (.aload_n 0, 1) := by decide +kernel
theorem dX3_goFrom_103 : decode cX3_goFrom 103 = .ok (.aload_n 0, 1) := by decide +kernel
theorem dX3_goFrom_104 : decode cX3_goFrom 104 = .ok (.aload_n 0, 1) := by decide +kernel
theorem dX3_goFrom_105 : decode cX3_goFrom 105 = .ok (.getfield 43, 3) := by decide +kernel
theorem dX3_goFrom_108 : decode cX3_goFrom 108 = .ok (.getfield 105, 3) := by decide +kernel
theorem dX3_goFrom_111 : decode cX3_goFrom 111 = .ok (.invokevirtual 75, 3) := by decide +kernel
theorem dX3_goFrom_114 : decode cX3_goFrom 114 = .ok (.iload_n 1, 1) := by decide +kernel
theorem dX3_goFrom_115 : decode cX3_goFrom 115 = .ok (.bipush 84, 2) := by decide +kernel
theorem dX3_goFrom_117 : decode cX3_goFrom 117 = .ok (.imul, 1) := by decide +kernel
theorem dX3_goFrom_118 : decode cX3_goFrom 118 = .ok (.iload 4, 2) := by decide +kernel
theorem dX3_goFrom_120 : decode cX3_goFrom 120 = .ok (.iadd, 1) := by decide +kernel
theorem dX3_goFrom_121 : decode cX3_goFrom 121 = .ok (.iconst 1, 1) := by decide +kernel
theorem dX3_goFrom_122 : decode cX3_goFrom 122 = .ok (.iadd, 1) := by decide +kernel
theorem dX3_goFrom_123 : decode cX3_goFrom 123 = .ok (.invokevirtual 119, 3) := by decide +kernel
theorem dX3_goFrom_126 : decode cX3_goFrom 126 = .ok (.ifCond .eq 20, 3) := by decide +kernel
theorem dX3_goFrom_129 : decode cX3_goFrom 129 = .ok (.aload_n 0, 1) := by decide +kernel
theorem dX3_goFrom_130 : decode cX3_goFrom 130 = .ok (.getfield 36, 3) := by decide +kernel
theorem dX3_goFrom_133 : decode cX3_goFrom 133 = .ok (.aload_n 0, 1) := by decide +kernel
theorem dX3_goFrom_134 : decode cX3_goFrom 134 = .ok (.getfield 79, 3) := by decide +kernel
theorem dX3_goFrom_137 : decode cX3_goFrom 137 = .ok (.iconst 1, 1) := by decide +kernel
theorem dX3_goFrom_138 : decode cX3_goFrom 138 = .ok (.isub, 1) := by decide +kernel
theorem dX3_goFrom_139 : decode cX3_goFrom 139 = .ok (.iaload, 1) := by decide +kernel
theorem dX3_goFrom_140 : decode cX3_goFrom 140 = .ok (.iload_n 2, 1) := by decide +kernel
theorem dX3_goFrom_141 : decode cX3_goFrom 141 = .ok (.if_icmp .ne 5, 3) := by decide +kernel
theorem dX3_goFrom_144 : decode cX3_goFrom 144 = .ok (.iconst 1, 1) := by decide +kernel
theorem dX3_goFrom_145 : decode cX3_goFrom 145 = .ok (.ireturn, 1) := by decide +kernel
theorem dX3_goFrom_146 : decode cX3_goFrom 146 = .ok (.iload_n 3, 1) := by decide +kernel
theorem dX3_goFrom_147 : decode cX3_goFrom 147 = .ok (.iload 5, 2) := by decide +kernel
theorem dX3_goFrom_149 : decode cX3_goFrom 149 = .ok (.ior, 1) := by decide +kernel
theorem dX3_goFrom_150 : decode cX3_goFrom 150 = .ok (.istore_n 3, 1) := by decide +kernel
theorem dX3_goFrom_151 : decode cX3_goFrom 151 = .ok (.iinc 4 1, 3) := by decide +kernel
theorem dX3_goFrom_154 : decode cX3_goFrom 154 = .ok (.goto (-144), 3) := by decide +kernel
theorem dX3_goFrom_157 : decode cX3_goFrom 157 = .ok (.iconst 0, 1) := by decide +kernel
theorem dX3_goFrom_158 : decode cX3_goFrom 158 = .ok (.ireturn, 1) := by decide +kernel
theorem dX3_isIdle_0 : decode cX3_isIdle 0 = .ok (.iload_n 1, 1) := by decide +kernel
theorem dX3_isIdle_1 : decode cX3_isIdle 1 = .ok (.ifCond .ne 27, 3) := by decide +kernel
theorem dX3_isIdle_4 : decode cX3_isIdle 4 = .ok (.aload_n 0, 1) := by decide +kernel
theorem dX3_isIdle_5 : decode cX3_isIdle 5 = .ok (.getfield 18, 3) := by decide +kernel
theorem dX3_isIdle_8 : decode cX3_isIdle 8 = .ok (.iload_n 2, 1) := by decide +kernel
theorem dX3_isIdle_9 : decode cX3_isIdle 9 = .ok (.iaload, 1) := by decide +kernel
theorem dX3_isIdle_10 : decode cX3_isIdle 10 = .ok (.aload_n 0, 1) := by decide +kernel
theorem dX3_isIdle_11 : decode cX3_isIdle 11 = .ok (.getfield 39, 3) := by decide +kernel
theorem dX3_isIdle_14 : decode cX3_isIdle 14 = .ok (.getfield 63, 3) := by decide +kernel
theorem dX3_isIdle_17 : decode cX3_isIdle 17 = .ok (.iload_n 2, 1) := by decide +kernel
theorem dX3_isIdle_18 : decode cX3_isIdle 18 = .ok (.iaload, 1) := by decide +kernel
theorem dX3_isIdle_19 : decode cX3_isIdle 19 = .ok (.if_icmp .lt 7, 3) := by decide +kernel
theorem dX3_isIdle_22 : decode cX3_isIdle 22 = .ok (.iconst 1, 1) := by decide +kernel
theorem dX3_isIdle_23 : decode cX3_isIdle 23 = .ok (.goto 4, 3) := by decide +kernel
theorem dX3_isIdle_26 : decode cX3_isIdle 26 = .ok (.iconst 0, 1) := by decide +kernel
theorem dX3_isIdle_27 : decode cX3_isIdle 27 = .ok (.ireturn, 1) := by decide +kernel
theorem dX3_isIdle_28 : decode cX3_isIdle 28 = .ok (.iload_n 1, 1) := by decide +kernel
theorem dX3_isIdle_29 : decode cX3_isIdle 29 = .ok (.iconst 1, 1) := by decide +kernel
theorem dX3_isIdle_30 : decode cX3_isIdle 30 = .ok (.if_icmp .ne 18, 3) := by decide +kernel
theorem dX3_isIdle_33 : decode cX3_isIdle 33 = .ok (.aload_n 0, 1) := by decide +kernel
theorem dX3_isIdle_34 : decode cX3_isIdle 34 = .ok (.getfield 18, 3) := by decide +kernel
theorem dX3_isIdle_37 : decode cX3_isIdle 37 = .ok (.iload_n 2, 1) := by decide +kernel
theorem dX3_isIdle_38 : decode cX3_isIdle 38 = .ok (.iaload, 1) := by decide +kernel
theorem dX3_isIdle_39 : decode cX3_isIdle 39 = .ok (.ifCond .ne 7, 3) := by decide +kernel
theorem dX3_isIdle_42 : decode cX3_isIdle 42 = .ok (.iconst 1, 1) := by decide +kernel
theorem dX3_isIdle_43 : decode cX3_isIdle 43 = .ok (.goto 4, 3) := by decide +kernel
theorem dX3_isIdle_46 : decode cX3_isIdle 46 = .ok (.iconst 0, 1) := by decide +kernel
theorem dX3_isIdle_47 : decode cX3_isIdle 47 = .ok (.ireturn, 1) := by decide +kernel
theorem dX3_isIdle_48 : decode cX3_isIdle 48 = .ok (.iload_n 2, 1) := by decide +kernel
theorem dX3_isIdle_49 : decode cX3_isIdle 49 = .ok (.iload_n 3, 1) := by decide +kernel
theorem dX3_isIdle_50 : decode cX3_isIdle 50 = .ok (.if_icmp .eq 40, 3) := by decide +kernel
theorem dX3_isIdle_53 : decode cX3_isIdle 53 = .ok (.aload_n 0, 1) := by decide +kernel
theorem dX3_isIdle_54 : decode cX3_isIdle 54 = .ok (.getfield 18, 3) := by decide +kernel
theorem dX3_isIdle_57 : decode cX3_isIdle 57 = .ok (.iload_n 2, 1) := by decide +kernel
theorem dX3_isIdle_58 : decode cX3_isIdle 58 = .ok (.iaload, 1) := by decide +kernel
theorem dX3_isIdle_59 : decode cX3_isIdle 59 = .ok (.iload_n 1, 1) := by decide +kernel
theorem dX3_isIdle_60 : decode cX3_isIdle 60 = .ok (.iconst 3, 1) := by decide +kernel
theorem dX3_isIdle_61 : decode cX3_isIdle 61 = .ok (.if_icmp .ne 7, 3) := by decide +kernel
theorem dX3_isIdle_64 : decode cX3_isIdle 64 = .ok (.iconst 2, 1) := by decide +kernel
theorem dX3_isIdle_65 : decode cX3_isIdle 65 = .ok (.goto 4, 3) := by decide +kernel
theorem dX3_isIdle_68 : decode cX3_isIdle 68 = .ok (.iconst 1, 1) := by decide +kernel
theorem dX3_isIdle_69 : decode cX3_isIdle 69 = .ok (.if_icmp .lt 21, 3) := by decide +kernel
theorem dX3_isIdle_72 : decode cX3_isIdle 72 = .ok (.aload_n 0, 1) := by decide +kernel
theorem dX3_isIdle_73 : decode cX3_isIdle 73 = .ok (.getfield 18, 3) := by decide +kernel
theorem dX3_isIdle_76 : decode cX3_isIdle 76 = .ok (.iload_n 3, 1) := by decide +kernel
theorem dX3_isIdle_77 : decode cX3_isIdle 77 = .ok (.iaload, 1) := by decide +kernel
theorem dX3_isIdle_78 : decode cX3_isIdle 78 = .ok (.aload_n 0, 1) := by decide +kernel
theorem dX3_isIdle_79 : decode cX3_isIdle 79 = .ok (.getfield 39, 3) := by decide +kernel
theorem dX3_isIdle_82 : decode cX3_isIdle 82 = .ok (.getfield 63, 3) := by decide +kernel
theorem dX3_isIdle_85 : decode cX3_isIdle 85 = .ok (.iload_n 3, 1) := by decide +kernel
theorem dX3_isIdle_86 : decode cX3_isIdle 86 = .ok (.iaload, 1) := by decide +kernel
theorem dX3_isIdle_87 : decode cX3_isIdle 87 = .ok (.if_icmp .lt 7, 3) := by decide +kernel
theorem dX3_isIdle_90 : decode cX3_isIdle 90 = .ok (.iconst 1, 1) := by decide +kernel
theorem dX3_isIdle_91 : decode cX3_isIdle 91 = .ok (.goto 4, 3) := by decide +kernel
theorem dX3_isIdle_94 : decode cX3_isIdle 94 = .ok (.iconst 0, 1) := by decide +kernel
theorem dX3_isIdle_95 : decode cX3_isIdle 95 = .ok (.ireturn, 1) := by decide +kernel
theorem dX3_comeTo_0 : decode cX3_comeTo 0 = .ok (.iload_n 1, 1) := by decide +kernel
theorem dX3_comeTo_1 : decode cX3_comeTo 1 = .ok (.iconst 0, 1) := by decide +kernel
theorem dX3_comeTo_2 : decode cX3_comeTo 2 = .ok (.sipush 19999, 3) := by decide +kernel
theorem dX3_comeTo_5 : decode cX3_comeTo 5 = .ok (.invokestatic 122, 3) := by decide +kernel
theorem dX3_comeTo_8 : decode cX3_comeTo 8 = .ok (.ifCond .eq 22, 3) := by decide +kernel
theorem dX3_comeTo_11 : decode cX3_comeTo 11 = .ok (.aload_n 0, 1) := by decide +kernel
theorem dX3_comeTo_12 : decode cX3_comeTo 12 = .ok (.getfield 33, 3) := by decide +kernel
theorem dX3_comeTo_15 : decode cX3_comeTo 15 = .ok (.iload_n 1, 1) := by decide +kernel
theorem dX3_comeTo_16 : decode cX3_comeTo 16 = .ok (.iaload, 1) := by decide +kernel
theorem dX3_comeTo_17 : decode cX3_comeTo 17 = .ok (.ifCond .ne 13, 3) := by decide +kernel
theorem dX3_comeTo_20 : decode cX3_comeTo 20 = .ok (.aload_n 0, 1) := by decide +kernel
theorem dX3_comeTo_21 : decode cX3_comeTo 21 = .ok (.getfield 79, 3) := by decide +kernel
theorem dX3_comeTo_24 : decode cX3_comeTo 24 = .ok (.sipush 20000, 3) := by decide +kernel
theorem dX3_comeTo_27 : decode cX3_comeTo 27 = .ok (.if_icmp .lt 5, 3) := by decide +kernel
theorem dX3_comeTo_30 : decode cX3_comeTo 30 = .ok (.iconst 0, 1) := by decide +kernel
theorem dX3_comeTo_31 : decode cX3_comeTo 31 = .ok (.ireturn, 1) := by decide +kernel
theorem dX3_comeTo_32 : decode cX3_comeTo 32 = .ok (.aload_n 0, 1) := by decide +kernel
theorem dX3_comeTo_33 : decode cX3_comeTo 33 = .ok (.getfield 33, 3) := by decide +kernel
theorem dX3_comeTo_36 : decode cX3_comeTo 36 = .ok (.iload_n 1, 1) := by decide +kernel
theorem dX3_comeTo_37 : decode cX3_comeTo 37 = .ok (.iload_n 2, 1) := by decide +kernel
theorem dX3_comeTo_38 : decode cX3_comeTo 38 = .ok (.iastore, 1) := by decide +kernel
theorem dX3_comeTo_39 : decode cX3_comeTo 39 = .ok (.aload_n 0, 1) := by decide +kernel
theorem dX3_comeTo_40 : decode cX3_comeTo 40 = .ok (.getfield 36, 3) := by decide +kernel
theorem dX3_comeTo_43 : decode cX3_comeTo 43 = .ok (.aload_n 0, 1) := by decide +kernel
theorem dX3_comeTo_44 : decode cX3_comeTo 44 = .ok (.getfield 79, 3) := by decide +kernel
theorem dX3_comeTo_47 : decode cX3_comeTo 47 = .ok (.iload_n 1, 1) := by decide +kernel
theorem dX3_comeTo_48 : decode cX3_comeTo 48 = .ok (.iastore, 1) := by decide +kernel
theorem dX3_comeTo_49 : decode cX3_comeTo 49 = .ok (.aload_n 0, 1) := by decide +kernel
theorem dX3_comeTo_50 : decode cX3_comeTo 50 = .ok (.dup, 1) := by decide +kernel
theorem dX3_comeTo_51 : decode cX3_comeTo 51 = .ok (.getfield 79, 3) := by decide +kernel
theorem dX3_comeTo_54 : decode cX3_comeTo 54 = .ok (.iconst 1, 1) := by decide +kernel
theorem dX3_comeTo_55 : decode cX3_comeTo 55 = .ok (.iadd, 1) := by decide +kernel
theorem dX3_comeTo_56 : decode cX3_comeTo 56 = .ok (.putfield 79, 3) := by decide +kernel
theorem dX3_comeTo_59 : decode cX3_comeTo 59 = .ok (.iconst 1, 1) := by decide +kernel
theorem dX3_comeTo_60 : decode cX3_comeTo 60 = .ok (.ireturn, 1) := by decide +kernel
theorem dX3_retrace_0 : decode cX3_retrace 0 = .ok (.iload_n 1, 1) := by decide +kernel
theorem dX3_retrace_1 : decode cX3_retrace 1 = .ok (.istore_n 3, 1) := by decide +kernel
theorem dX3_retrace_2 : decode cX3_retrace 2 = .ok (.iload_n 2, 1) := by decide +kernel
theorem dX3_retrace_3 : decode cX3_retrace 3 = .ok (.iconst 1, 1) := by decide +kernel
theorem dX3_retrace_4 : decode cX3_retrace 4 = .ok (.isub, 1) := by decide +kernel
theorem dX3_retrace_5 : decode cX3_retrace 5 = .ok (.istore 4, 2) := by decide +kernel
theorem dX3_retrace_7 : decode cX3_retrace 7 = .ok (.iload 4, 2) := by decide +kernel
theorem dX3_retrace_9 : decode cX3_retrace 9 = .ok (.ifCond .lt 43, 3) := by decide +kernel
theorem dX3_retrace_12 : decode cX3_retrace 12 = .ok (.aload_n 0, 1) := by decide +kernel
theorem dX3_retrace_13 : decode cX3_retrace 13 = .ok (.getfield 33, 3) := by decide +kernel
theorem dX3_retrace_16 : decode cX3_retrace 16 = .ok (.iload_n 3, 1) := by decide +kernel
theorem dX3_retrace_17 : decode cX3_retrace 17 = .ok (.iaload, 1) := by decide +kernel
theorem dX3_retrace_18 : decode cX3_retrace 18 = .ok (.iconst 1, 1) := by decide +kernel
theorem dX3_retrace_19 : decode cX3_retrace 19 = .ok (.isub, 1) := by decide +kernel
theorem dX3_retrace_20 : decode cX3_retrace 20 = .ok (.istore 5, 2) := by decide +kernel
theorem dX3_retrace_22 : decode cX3_retrace 22 = .ok (.iload 5, 2) := by decide +kernel
theorem dX3_retrace_24 : decode cX3_retrace 24 = .ok (.ifCond .ge 4, 3) := by decide +kernel
theorem dX3_retrace_27 : decode cX3_retrace 27 = .ok (.return_, 1) := by decide +kernel
theorem dX3_retrace_28 : decode cX3_retrace 28 = .ok (.aload_n 0, 1) := by decide +kernel
theorem dX3_retrace_29 : decode cX3_retrace 29 = .ok (.getfield 15, 3) := by decide +kernel
theorem dX3_retrace_32 : decode cX3_retrace 32 = .ok (.iload 4, 2) := by decide +kernel
theorem dX3_retrace_34 : decode cX3_retrace 34 = .ok (.iload 5, 2) := by decide +kernel
theorem dX3_retrace_36 : decode cX3_retrace 36 = .ok (.bipush 84, 2) := by decide +kernel
theorem dX3_retrace_38 : decode cX3_retrace 38 = .ok (.irem, 1) := by decide +kernel
theorem dX3_retrace_39 : decode cX3_retrace 39 = .ok (.iastore, 1) := by decide +kernel
theorem dX3_retrace_40 : decode cX3_retrace 40 = .ok (.iload 5, 2) := by decide +kernel
theorem dX3_retrace_42 : decode cX3_retrace 42 = .ok (.bipush 84, 2) := by decide +kernel
theorem dX3_retrace_44 : decode cX3_retrace 44 = .ok (.idiv, 1) := by decide +kernel
theorem dX3_retrace_45 : decode cX3_retrace 45 = .ok (.istore_n 3, 1) := by decide +kernel
theorem dX3_retrace_46 : decode cX3_retrace 46 = .ok (.iinc 4 (-1), 3) := by decide +kernel
theorem dX3_retrace_49 : decode cX3_retrace 49 = .ok (.goto (-42), 3) := by decide +kernel
theorem dX3_retrace_52 : decode cX3_retrace 52 = .ok (.return_, 1) := by decide +kernel
theorem dX4_init_0 : decode cX4_init 0 = .ok (.aload_n 0, 1) := by decide +kernel
theorem dX4_init_1 : decode cX4_init 1 = .ok (.invokespecial 3, 3) := by decide +kernel
theorem dX4_init_4 : decode cX4_init 4 = .ok (.aload_n 0, 1) := by decide +kernel
theorem dX4_init_5 : decode cX4_init 5 = .ok (.bipush 120, 2) := by decide +kernel
theorem dX4_init_7 : decode cX4_init 7 = .ok (.newarray .int, 2) := by decide +kernel
theorem dX4_init_9 : decode cX4_init 9 = .ok (.putfield 9, 3) := by decide +kernel
theorem dX4_init_12 : decode cX4_init 12 = .ok (.aload_n 0, 1) := by decide +kernel
theorem dX4_init_13 : decode cX4_init 13 = .ok (.bipush 120, 2) := by decide +kernel
theorem dX4_init_15 : decode cX4_init 15 = .ok (.newarray .int, 2) := by decide +kernel
theorem dX4_init_17 : decode cX4_init 17 = .ok (.putfield 15, 3) := by decide +kernel
theorem dX4_init_20 : decode cX4_init 20 = .ok (.aload_n 0, 1) := by decide +kernel
theorem dX4_init_21 : decode cX4_init 21 = .ok (.bipush 120, 2) := by decide +kernel
theorem dX4_init_23 : decode cX4_init 23 = .ok (.newarray .int, 2) := by decide +kernel
theorem dX4_init_25 : decode cX4_init 25 = .ok (.putfield 18, 3) := by decide +kernel
theorem dX4_init_28 : decode cX4_init 28 = .ok (.aload_n 0, 1) := by decide +kernel
theorem dX4_init_29 : decode cX4_init 29 = .ok (.bipush 120, 2) := by decide +kernel
theorem dX4_init_31 : decode cX4_init 31 = .ok (.newarray .int, 2) := by decide +kernel
theorem dX4_init_33 : decode cX4_init 33 = .ok (.putfield 21, 3) := by decide +kernel
theorem dX4_init_36 : decode cX4_init 36 = .ok (.aload_n 0, 1) := by decide +kernel
theorem dX4_init_37 : decode cX4_init 37 = .ok (.bipush 120, 2) := by decide +kernel
theorem dX4_init_39 : decode cX4_init 39 = .ok (.newarray .int, 2) := by decide +kernel
theorem dX4_init_41 : decode cX4_init 41 = .ok (.putfield 24, 3) := by decide +kernel
theorem dX4_init_44 : decode cX4_init 44 = .ok (.return_, 1) := by decide +kernel
theorem dX4_read_0 : decode cX4_read 0 = .ok (.aload_n 0, 1) := by decide +kernel
theorem dX4_read_1 : decode cX4_read 1 = .ok (.iconst 0, 1) := by decide +kernel
theorem dX4_read_2 : decode cX4_read 2 = .ok (.putfield 27, 3) := by decide +kernel
theorem dX4_read_5 : decode cX4_read 5 = .ok (.aload_n 0, 1) := by decide +kernel
theorem dX4_read_6 : decode cX4_read 6 = .ok (.iconst 0, 1) := by decide +kernel
theorem dX4_read_7 : decode cX4_read 7 = .ok (.putfield 31, 3) := by decide +kernel
theorem dX4_read_10 : decode cX4_read 10 = .ok (.aload_n 1, 1) := by decide +kernel
theorem dX4_read_11 : decode cX4_read 11 = .ok (.iload_n 2, 1) := by decide +kernel
theorem dX4_read_12 : decode cX4_read 12 = .ok (.invokevirtual 34, 3) := by decide +kernel
theorem dX4_read_15 : decode cX4_read 15 = .ok (.aload_n 0, 1) := by decide +kernel
theorem dX4_read_16 : decode cX4_read 16 = .ok (.aload_n 1, 1) := by decide +kernel
theorem dX4_read_17 : decode cX4_read 17 = .ok (.iconst 0, 1) := by decide +kernel
theorem dX4_read_18 : decode cX4_read 18 = .ok (.invokevirtual 40, 3) := by decide +kernel
theorem dX4_read_21 : decode cX4_read 21 = .ok (.ifCond .eq 10, 3) := by decide +kernel
theorem dX4_read_24 : decode cX4_read 24 = .ok (.aload_n 1, 1) := by decide +kernel
theorem dX4_read_25 : decode cX4_read 25 = .ok (.invokevirtual 44, 3) := by decide +kernel
theorem dX4_read_28 : decode cX4_read 28 = .ok (.ifCond .ne 5, 3) := by decide +kernel
theorem dX4_read_31 : decode cX4_read 31 = .ok (.iconst 0, 1) := by decide +kernel
theorem dX4_read_32 : decode cX4_read 32 = .ok (.ireturn, 1) := by decide +kernel
theorem dX4_read_33 : decode cX4_read 33 = .ok (.aload_n 0, 1) := by decide +kernel
theorem dX4_read_34 : decode cX4_read 34 = .ok (.invokevirtual 48, 3) := by decide +kernel
theorem dX4_read_37 : decode cX4_read 37 = .ok (.iconst 1, 1) := by decide +kernel
theorem dX4_read_38 : decode cX4_read 38 = .ok (.ireturn, 1) := by decide +kernel
theorem dX4_maySlip_0 : decode cX4_maySlip 0 = .ok (.iload_n 1, 1) := by decide +kernel
theorem dX4_maySlip_1 : decode cX4_maySlip 1 = .ok (.iconst 0, 1) := by decide +kernel
theorem dX4_maySlip_2 : decode cX4_maySlip 2 = .ok (.aload_n 0, 1) := by decide +kernel
theorem dX4_maySlip_3 : decode cX4_maySlip 3 = .ok (.getfield 27, 3) := by decide +kernel
theorem dX4_maySlip_6 : decode cX4_maySlip 6 = .ok (.iconst 1, 1) := by decide +kernel
theorem dX4_maySlip_7 : decode cX4_maySlip 7 = .ok (.isub, 1) := by decide +kernel
theorem dX4_maySlip_8 : decode cX4_maySlip 8 = .ok (.invokestatic 51, 3) := by decide +kernel
theorem dX4_maySlip_11 : decode cX4_maySlip 11 = .ok (.ifCond .eq 17, 3) := by decide +kernel
theorem dX4_maySlip_14 : decode cX4_maySlip 14 = .ok (.aload_n 0, 1) := by decide +kernel
theorem dX4_maySlip_15 : decode cX4_maySlip 15 = .ok (.getfield 9, 3) := by decide +kernel
theorem dX4_maySlip_18 : decode cX4_maySlip 18 = .ok (.iload_n 1, 1) := by decide +kernel
theorem dX4_maySlip_19 : decode cX4_maySlip 19 = .ok (.iaload, 1) := by decide +kernel
theorem dX4_maySlip_20 : decode cX4_maySlip 20 = .ok (.iconst 3, 1) := by decide +kernel
theorem dX4_maySlip_21 : decode cX4_maySlip 21 = .ok (.if_icmp .gt 7, 3) := by decide +kernel
theorem dX4_maySlip_24 : decode cX4_maySlip 24 = .ok (.iconst 1, 1) := by decide +kernel
theorem dX4_maySlip_25 : decode cX4_maySlip 25 = .ok (.goto 4, 3) := by decide +kernel
theorem dX4_maySlip_28 : decode cX4_maySlip 28 = .ok (.iconst 0, 1) := by decide +kernel
theorem dX4_maySlip_29 : decode cX4_maySlip 29 = .ok (.ireturn, 1) := by decide +kernel
theorem dX4_add_0 : decode cX4_add 0 = .ok (.aload_n 0, 1) := by decide +kernel
theorem dX4_add_1 : decode cX4_add 1 = .ok (.getfield 27, 3) := by decide +kernel
theorem dX4_add_4 : decode cX4_add 4 = .ok (.istore 4, 2) := by decide +kernel
theorem dX4_add_6 : decode cX4_add 6 = .ok (.iload 4, 2) := by decide +kernel
theorem dX4_add_8 : decode cX4_add 8 = .ok (.bipush 120, 2) := by decide +kernel
theorem dX4_add_10 : decode cX4_add 10 = .ok (.if_icmp .ge 53, 3) := by decide +kernel
theorem dX4_add_13 : decode cX4_add 13 = .ok (.aload_n 0, 1) := by decide +kernel
theorem dX4_add_14 : decode cX4_add 14 = .ok (.getfield 9, 3) := by decide +kernel
theorem dX4_add_17 : decode cX4_add 17 = .ok (.iload 4, 2) := by decide +kernel
theorem dX4_add_19 : decode cX4_add 19 = .ok (.iload_n 1, 1) := by decide +kernel
theorem dX4_add_20 : decode cX4_add 20 = .ok (.iastore, 1) := by decide +kernel
theorem dX4_add_21 : decode cX4_add 21 = .ok (.aload_n 0, 1) := by decide +kernel
theorem dX4_add_22 : decode cX4_add 22 = .ok (.getfield 15, 3) := by decide +kernel
theorem dX4_add_25 : decode cX4_add 25 = .ok (.iload 4, 2) := by decide +kernel
theorem dX4_add_27 : decode cX4_add 27 = .ok (.iload_n 2, 1) := by decide +kernel
theorem dX4_add_28 : decode cX4_add 28 = .ok (.iastore, 1) := by decide +kernel
theorem dX4_add_29 : decode cX4_add 29 = .ok (.aload_n 0, 1) := by decide +kernel
theorem dX4_add_30 : decode cX4_add 30 = .ok (.getfield 18, 3) := by decide +kernel
theorem dX4_add_33 : decode cX4_add 33 = .ok (.iload 4, 2) := by decide +kernel
theorem dX4_add_35 : decode cX4_add 35 = .ok (.iload_n 3, 1) := by decide +kernel
theorem dX4_add_36 : decode cX4_add 36 = .ok (.iastore, 1) := by decide +kernel
theorem dX4_add_37 : decode cX4_add 37 = .ok (.aload_n 0, 1) := by decide +kernel
theorem dX4_add_38 : decode cX4_add 38 = .ok (.dup, 1) := by decide +kernel
theorem dX4_add_39 : decode cX4_add 39 = .ok (.getfield 27, 3) := by decide +kernel
theorem dX4_add_42 : decode cX4_add 42 = .ok (.iconst 1, 1) := by decide +kernel
theorem dX4_add_43 : decode cX4_add 43 = .ok (.iadd, 1) := by decide +kernel
theorem dX4_add_44 : decode cX4_add 44 = .ok (.putfield 27, 3) := by decide +kernel
theorem dX4_add_47 : decode cX4_add 47 = .ok (.iload_n 1, 1) := by decide +kernel
theorem dX4_add_48 : decode cX4_add 48 = .ok (.bipush 6, 2) := by decide +kernel
theorem dX4_add_50 : decode cX4_add 50 = .ok (.if_icmp .eq 13, 3) := by decide +kernel
theorem dX4_add_53 : decode cX4_add 53 = .ok (.aload_n 0, 1) := by decide +kernel
theorem dX4_add_54 : decode cX4_add 54 = .ok (.dup, 1) := by decide +kernel
theorem dX4_add_55 : decode cX4_add 55 = .ok (.getfield 31, 3) := by decide +kernel
theorem dX4_add_58 : decode cX4_add 58 = .ok (.iconst 1, 1) := by decide +kernel
theorem dX4_add_59 : decode cX4_add 59 = .ok (.iadd, 1) := by decide +kernel
theorem dX4_add_60 : decode cX4_add 60 = .ok (.putfield 31, 3) := by decide +kernel
theorem dX4_add_63 : decode cX4_add 63 = .ok (.iload 4, 2) := by decide +kernel
theorem dX4_add_65 : decode cX4_add 65 = .ok (.ireturn, 1) := by decide +kernel
theorem dX4_lead_0 : decode cX4_lead 0 = .ok (.iload_n 1, 1) := by decide +kernel
theorem dX4_lead_1 : decode cX4_lead 1 = .ok (.iconst 0, 1) := by decide +kernel
theorem dX4_lead_2 : decode cX4_lead 2 = .ok (.bipush 119, 2) := by decide +kernel
theorem dX4_lead_4 : decode cX4_lead 4 = .ok (.invokestatic 51, 3) := by decide +kernel
theorem dX4_lead_7 : decode cX4_lead 7 = .ok (.ifCond .eq 10, 3) := by decide +kernel
theorem dX4_lead_10 : decode cX4_lead 10 = .ok (.aload_n 0, 1) := by decide +kernel
theorem dX4_lead_11 : decode cX4_lead 11 = .ok (.getfield 24, 3) := by decide +kernel
theorem dX4_lead_14 : decode cX4_lead 14 = .ok (.iload_n 1, 1) := by decide +kernel
theorem dX4_lead_15 : decode cX4_lead 15 = .ok (.iload_n 2, 1) := by decide +kernel
theorem dX4_lead_16 : decode cX4_lead 16 = .ok (.iastore, 1) := by decide +kernel
theorem dX4_lead_17 : decode cX4_lead 17 = .ok (.return_, 1) := by decide +kernel
theorem dX4_straighten_0 : decode cX4_straighten 0 = .ok (.iconst 0, 1) := by decide +kernel
theorem dX4_straighten_1 : decode cX4_straighten 1 = .ok (.istore_n 1, 1) := by decide +kernel
theorem dX4_straighten_2 : decode cX4_straighten 2 = .ok (.iload_n 1, 1) := by decide +kernel
theorem dX4_straighten_3 : decode cX4_straighten 3 = .ok (.aload_n 0, 1) := by decide +kernel
theorem dX4_straighten_4 : decode cX4_straighten 4 = .ok (.getfield 27, 3) := by decide +kernel
theorem dX4_straighten_7 : decode cX4_straighten 7 = .ok (.if_icmp .ge 22, 3) := by decide +kernel
theorem dX4_straighten_10 : decode cX4_straighten 10 = .ok (.aload_n 0, 1) := by decide +kernel
theorem dX4_straighten_11 : decode cX4_straighten 11 = .ok (.getfield 21, 3) := by decide +kernel
theorem dX4_straighten_14 : decode cX4_straighten 14 = .ok (.iload_n 1, 1) := by decide +kernel
theorem dX4_straighten_15 : decode cX4_straighten 15 = .ok (.aload_n 0, 1) := by decide +kernel
theorem dX4_straighten_16 : decode cX4_straighten 16 = .ok (.iload_n 1, 1) := by decide +kernel
theorem dX4_straighten_17 : decode cX4_straighten 17 = .ok (.iconst 1, 1) := by decide +kernel
theorem dX4_straighten_18 : decode cX4_straighten 18 = .ok (.iadd, 1) := by decide +kernel
theorem dX4_straighten_19 : decode cX4_straighten 19 = .ok (.invokevirtual 55, 3) := by decide +kernel
theorem dX4_straighten_22 : decode cX4_straighten 22 = .ok (.iastore, 1) := by decide +kernel
theorem dX4_straighten_23 : decode cX4_straighten 23 = .ok (.iinc 1 1, 3) := by decide +kernel
theorem dX4_straighten_26 : decode cX4_straighten 26 = .ok (.goto (-24), 3) := by decide +kernel
theorem dX4_straighten_29 : decode cX4_straighten 29 = .ok (.iconst 0, 1) := by decide +kernel
theorem dX4_straighten_30 : decode cX4_straighten 30 = .ok (.istore_n 1, 1) := by decide +kernel
theorem dX4_straighten_31 : decode cX4_straighten 31 = .ok (.iload_n 1, 1) := by decide +kernel
theorem dX4_straighten_32 : decode cX4_straighten 32 = .ok (.aload_n 0, 1) := by decide +kernel
theorem dX4_straighten_33 : decode cX4_straighten 33 = .ok (.getfield 27, 3) := by decide +kernel
theorem dX4_straighten_36 : decode cX4_straighten 36 = .ok (.if_icmp .ge 35, 3) := by decide +kernel
theorem dX4_straighten_39 : decode cX4_straighten 39 = .ok (.aload_n 0, 1) := by decide +kernel
theorem dX4_straighten_40 : decode cX4_straighten 40 = .ok (.getfield 9, 3) := by decide +kernel
theorem dX4_straighten_43 : decode cX4_straighten 43 = .ok (.iload_n 1, 1) := by decide +kernel
theorem dX4_straighten_44 : decode cX4_straighten 44 = .ok (.iaload, 1) := by decide +kernel
theorem dX4_straighten_45 : decode cX4_straighten 45 = .ok (.iconst 4, 1) := by decide +kernel
theorem dX4_straighten_46 : decode cX4_straighten 46 = .ok (.if_icmp .ne 19, 3) := by decide +kernel
theorem dX4_straighten_49 : decode cX4_straighten 49 = .ok (.aload_n 0, 1) := by decide +kernel
theorem dX4_straighten_50 : decode cX4_straighten 50 = .ok (.getfield 24, 3) := by decide +kernel
theorem dX4_straighten_53 : decode cX4_straighten 53 = .ok (.iload_n 1, 1) := by decide +kernel
theorem dX4_straighten_54 : decode cX4_straighten 54 = .ok (.aload_n 0, 1) := by decide +kernel
theorem dX4_straighten_55 : decode cX4_straighten 55 = .ok (.aload_n 0, 1) := by decide +kernel
theorem dX4_straighten_56 : decode cX4_straighten 56 = .ok (.getfield 24, 3) := by decide +kernel
theorem dX4_straighten_59 : decode cX4_straighten 59 = .ok (.iload_n 1, 1) := by decide +kernel
theorem dX4_straighten_60 : decode cX4_straighten 60 = .ok (.iaload, 1) := by decide +kernel
theorem dX4_straighten_61 : decode cX4_straighten 61 = .ok (.invokevirtual 55, 3) := by decide +kernel
theorem dX4_straighten_64 : decode cX4_straighten 64 = .ok (.iastore, 1) := by decide +kernel
theorem dX4_straighten_65 : decode cX4_straighten 65 = .ok (.iinc 1 1, 3) := by decide +kernel
theorem dX4_straighten_68 : decode cX4_straighten 68 = .ok (.goto (-37), 3) := by decide +kernel
theorem dX4_straighten_71 : decode cX4_straighten 71 = .ok (.return_, 1) := by decide +kernel
theorem dX4_behindJumps_0 : decode cX4_behindJumps 0 = .ok (.iload_n 1, 1) := by decide +kernel
theorem dX4_behindJumps_1 : decode cX4_behindJumps 1 = .ok (.istore_n 2, 1) := by decide +kernel
theorem dX4_behindJumps_2 : decode cX4_behindJumps 2 = .ok (.iconst 0, 1) := by decide +kernel
theorem dX4_behindJumps_3 : decode cX4_behindJumps 3 = .ok (.istore_n 3, 1) := by decide +kernel
theorem dX4_behindJumps_4 : decode cX4_behindJumps 4 = .ok (.iload_n 3, 1) := by decide +kernel
theorem dX4_behindJumps_5 : decode cX4_behindJumps 5 = .ok (.aload_n 0, 1) := by decide +kernel
theorem dX4_behindJumps_6 : decode cX4_behindJumps 6 = .ok (.getfield 27, 3) := by decide +kernel
theorem dX4_behindJumps_9 : decode cX4_behindJumps 9 = .ok (.if_icmp .ge 35, 3) := by decide +kernel
theorem dX4_behindJumps_12 : decode cX4_behindJumps 12 = .ok (.iload_n 2, 1) := by decide +kernel
theorem dX4_behindJumps_13 : decode cX4_behindJumps 13 = .ok (.aload_n 0, 1) := by decide +kernel
theorem dX4_behindJumps_14 : decode cX4_behindJumps 14 = .ok (.getfield 27, 3) := by decide +kernel
theorem dX4_behindJumps_17 : decode cX4_behindJumps 17 = .ok (.if_icmp .ge 27, 3) := by decide +kernel
theorem dX4_behindJumps_20 : decode cX4_behindJumps 20 = .ok (.aload_n 0, 1) := by decide +kernel
theorem dX4_behindJumps_21 : decode cX4_behindJumps 21 = .ok (.getfield 9, 3) := by decide +kernel
theorem dX4_behindJumps_24 : decode cX4_behindJumps 24 = .ok (.iload_n 2, 1) := by decide +kernel
theorem dX4_behindJumps_25 : decode cX4_behindJumps 25 = .ok (.iaload, 1) := by decide +kernel
theorem dX4_behindJumps_26 : decode cX4_behindJumps 26 = .ok (.bipush 6, 2) := by decide +kernel
theorem dX4_behindJumps_28 : decode cX4_behindJumps 28 = .ok (.if_icmp .ne 16, 3) := by decide +kernel
theorem dX4_behindJumps_31 : decode cX4_behindJumps 31 = .ok (.aload_n 0, 1) := by decide +kernel
theorem dX4_behindJumps_32 : decode cX4_behindJumps 32 = .ok (.getfield 24, 3) := by decide +kernel
theorem dX4_behindJumps_35 : decode cX4_behindJumps 35 = .ok (.iload_n 2, 1) := by decide +kernel
theorem dX4_behindJumps_36 : decode cX4_behindJumps 36 = .ok (.iaload, 1) := by decide +kernel
theorem dX4_behindJumps_37 : decode cX4_behindJumps 37 = .ok (.istore_n 2, 1) := by decide +kernel
theorem dX4_behindJumps_38 : decode cX4_behindJumps 38 = .ok (.iinc 3 1, 3) := by decide +kernel
theorem dX4_behindJumps_41 : decode cX4_behindJumps 41 = .ok (.goto (-37), 3) := by decide +kernel
theorem dX4_behindJumps_44 : decode cX4_behindJumps 44 = .ok (.iload_n 2, 1) := by decide +kernel
theorem dX4_behindJumps_45 : decode cX4_behindJumps 45 = .ok (.ireturn, 1) := by decide +kernel
theorem dX4_beginsAct_0 : decode cX4_beginsAct 0 = .ok (.iload_n 0, 1) := by decide +kernel
theorem dX4_beginsAct_1 : decode cX4_beginsAct 1 = .ok (.bipush 100, 2) := by decide +kernel
theorem dX4_beginsAct_3 : decode cX4_beginsAct 3 = .ok (.if_icmp .eq 39, 3) := by decide +kernel
theorem dX4_beginsAct_6 : decode cX4_beginsAct 6 = .ok (.iload_n 0, 1) := by decide +kernel
theorem dX4_beginsAct_7 : decode cX4_beginsAct 7 = .ok (.bipush 116, 2) := by decide +kernel
theorem dX4_beginsAct_9 : decode cX4_beginsAct 9 = .ok (.if_icmp .eq 33, 3) := by decide +kernel
theorem dX4_beginsAct_12 : decode cX4_beginsAct 12 = .ok (.iload_n 0, 1) := by decide +kernel
theorem dX4_beginsAct_13 : decode cX4_beginsAct 13 = .ok (.bipush 112, 2) := by decide +kernel
theorem dX4_beginsAct_15 : decode cX4_beginsAct 15 = .ok (.if_icmp .eq 27, 3) := by decide +kernel
theorem dX4_beginsAct_18 : decode cX4_beginsAct 18 = .ok (.iload_n 0, 1) := by decide +kernel
theorem dX4_beginsAct_19 : decode cX4_beginsAct 19 = .ok (.bipush 104, 2) := by decide +kernel
theorem dX4_beginsAct_21 : decode cX4_beginsAct 21 = .ok (.if_icmp .eq 21, 3) := by decide +kernel
theorem dX4_beginsAct_24 : decode cX4_beginsAct 24 = .ok (.iload_n 0, 1) := by decide +kernel
theorem dX4_beginsAct_25 : decode cX4_beginsAct 25 = .ok (.bipush 119, 2) := by decide +kernel
theorem dX4_beginsAct_27 : decode cX4_beginsAct 27 = .ok (.if_icmp .eq 15, 3) := by decide +kernel
theorem dX4_beginsAct_30 : decode cX4_beginsAct 30 = .ok (.iload_n 0, 1) := by decide +kernel
theorem dX4_beginsAct_31 : decode cX4_beginsAct 31 = .ok (.bipush 105, 2) := by decide +kernel
theorem dX4_beginsAct_33 : decode cX4_beginsAct 33 = .ok (.if_icmp .eq 9, 3) := by decide +kernel
theorem dX4_beginsAct_36 : decode cX4_beginsAct 36 = .ok (.iload_n 0, 1) := by decide +kernel
theorem dX4_beginsAct_37 : decode cX4_beginsAct 37 = .ok (.bipush 107, 2) := by decide +kernel
theorem dX4_beginsAct_39 : decode cX4_beginsAct 39 = .ok (.if_icmp .ne 7, 3) := by decide +kernel
theorem dX4_beginsAct_42 : decode cX4_beginsAct 42 = .ok (.iconst 1, 1) := by decide +kernel
theorem dX4_beginsAct_43 : decode cX4_beginsAct 43 = .ok (.goto 4, 3) := by decide +kernel
theorem dX4_beginsAct_46 : decode cX4_beginsAct 46 = .ok (.iconst 0, 1) := by decide +kernel
theorem dX4_beginsAct_47 : decode cX4_beginsAct 47 = .ok (.ireturn, 1) := by decide +kernel
theorem dX4_readActs_0 : decode cX4_readActs 0 = .ok (.aload_n 0, 1) := by decide +kernel
theorem dX4_readActs_1 : decode cX4_readActs 1 = .ok (.aload_n 1, 1) := by decide +kernel
theorem dX4_readActs_2 : decode cX4_readActs 2 = .ok (.iload_n 2, 1) := by decide +kernel
theorem dX4_readActs_3 : decode cX4_readActs 3 = .ok (.invokevirtual 59, 3) := by decide +kernel
theorem dX4_readActs_6 : decode cX4_readActs 6 = .ok (.istore_n 3, 1) := by decide +kernel
theorem dX4_readActs_7 : decode cX4_readActs 7 = .ok (.iconst 0, 1) := by decide +kernel
theorem dX4_readActs_8 : decode cX4_readActs 8 = .ok (.istore 4, 2) := by decide +kernel
theorem dX4_readActs_10 : decode cX4_readActs 10 = .ok (.iload 4, 2) := by decide +kernel
theorem dX4_readActs_12 : decode cX4_readActs 12 = .ok (.bipush 120, 2) := by decide +kernel
theorem dX4_readActs_14 : decode cX4_readActs 14 = .ok (.if_icmp .ge 30, 3) := by decide +kernel
theorem dX4_readActs_17 : decode cX4_readActs 17 = .ok (.iload_n 3, 1) := by decide +kernel
theorem dX4_readActs_18 : decode cX4_readActs 18 = .ok (.ifCond .eq 26, 3) := by decide +kernel
theorem dX4_readActs_21 : decode cX4_readActs 21 = .ok (.aload_n 1, 1) := by decide +kernel
theorem dX4_readActs_22 : decode cX4_readActs 22 = .ok (.invokevirtual 62, 3) := by decide +kernel
theorem dX4_readActs_25 : decode cX4_readActs 25 = .ok (.invokestatic 66, 3) := by decide +kernel
theorem dX4_readActs_28 : decode cX4_readActs 28 = .ok (.ifCond .eq 16, 3) := by decide +kernel
theorem dX4_readActs_31 : decode cX4_readActs 31 = .ok (.aload_n 0, 1) := by decide +kernel
theorem dX4_readActs_32 : decode cX4_readActs 32 = .ok (.aload_n 1, 1) := by decide +kernel
theorem dX4_readActs_33 : decode cX4_readActs 33 = .ok (.iload_n 2, 1) := by decide +kernel
theorem dX4_readActs_34 : decode cX4_readActs 34 = .ok (.invokevirtual 59, 3) := by decide +kernel
theorem dX4_readActs_37 : decode cX4_readActs 37 = .ok (.istore_n 3, 1) := by decide +kernel
theorem dX4_readActs_38 : decode cX4_readActs 38 = .ok (.iinc 4 1, 3) := by decide +kernel
theorem dX4_readActs_41 : decode cX4_readActs 41 = .ok (.goto (-31), 3) := by decide +kernel
theorem dX4_readActs_44 : decode cX4_readActs 44 = .ok (.iload_n 3, 1) := by decide +kernel
theorem dX4_readActs_45 : decode cX4_readActs 45 = .ok (.ireturn, 1) := by decide +kernel
theorem dX4_readAct_0 : decode cX4_readAct 0 = .ok (.aload_n 1, 1) := by decide +kernel
theorem dX4_readAct_1 : decode cX4_readAct 1 = .ok (.invokevirtual 62, 3) := by decide +kernel
theorem dX4_readAct_4 : decode cX4_readAct 4 = .ok (.istore_n 3, 1) := by decide +kernel
theorem dX4_readAct_5 : decode cX4_readAct 5 = .ok (.iload_n 3, 1) := by decide +kernel
theorem dX4_readAct_6 : decode cX4_readAct 6 = .ok (.invokestatic 66, 3) := by decide +kernel
theorem dX4_readAct_9 : decode cX4_readAct 9 = .ok (.ifCond .ne 9, 3) := by decide +kernel
theorem dX4_readAct_12 : decode cX4_readAct 12 = .ok (.aload_n 1, 1) := by decide +kernel
theorem dX4_readAct_13 : decode cX4_readAct 13 = .ok (.iconst 1, 1) := by decide +kernel
theorem dX4_readAct_14 : decode cX4_readAct 14 = .ok (.invokevirtual 70, 3) := by decide +kernel
theorem dX4_readAct_17 : decode cX4_readAct 17 = .ok (.ireturn, 1) := by decide +kernel
theorem dX4_readAct_18 : decode cX4_readAct 18 = .ok (.aload_n 1, 1) := by decide +kernel
theorem dX4_readAct_19 : decode cX4_readAct 19 = .ok (.invokevirtual 73, 3) := by decide +kernel
theorem dX4_readAct_22 : decode cX4_readAct 22 = .ok (.iload_n 3, 1) := by decide +kernel
theorem dX4_readAct_23 : decode cX4_readAct 23 = .ok (.tableswitch 135 100 119 #[93, 135, 135, 135, 114, 128, 135, 135, 135, 135, 135, 135, 107, 135, 135, 135, 100, 135, 135, 121], 93) := by decide +kernel
theorem dX4_readAct_116 : decode cX4_readAct 116 = .ok (.aload_n 0, 1) := by decide +kernel
theorem dX4_readAct_117 : decode cX4_readAct 117 = .ok (.aload_n 1, 1) := by decide +kernel
theorem dX4_readAct_118 : decode cX4_readAct 118 = .ok (.iconst 0, 1) := by decide +kernel
theorem dX4_readAct_119 : decode cX4_readAct 119 = .ok (.invokevirtual 76, 3) := by decide +kernel
theorem dX4_readAct_122 : decode cX4_readAct 122 = .ok (.ireturn, 1) := by decide +kernel
theorem dX4_readAct_123 : decode cX4_readAct 123 = .ok (.aload_n 0, 1) := by decide +kernel
theorem dX4_readAct_124 : decode cX4_readAct 124 = .ok (.aload_n 1, 1) := by decide +kernel
theorem dX4_readAct_125 : decode cX4_readAct 125 = .ok (.iconst 1, 1) := by decide +kernel
theorem dX4_readAct_126 : decode cX4_readAct 126 = .ok (.invokevirtual 76, 3) := by decide +kernel
theorem dX4_readAct_129 : decode cX4_readAct 129 = .ok (.ireturn, 1) := by decide +kernel
theorem dX4_readAct_130 : decode cX4_readAct 130 = .ok (.aload_n 0, 1) := by decide +kernel
theorem dX4_readAct_131 : decode cX4_readAct 131 = .ok (.aload_n 1, 1) := by decide +kernel
theorem dX4_readAct_132 : decode cX4_readAct 132 = .ok (.iconst 2, 1) := by decide +kernel
theorem dX4_readAct_133 : decode cX4_readAct 133 = .ok (.invokevirtual 79, 3) := by decide +kernel
theorem dX4_readAct_136 : decode cX4_readAct 136 = .ok (.ireturn, 1) := by decide +kernel
theorem dX4_readAct_137 : decode cX4_readAct 137 = .ok (.aload_n 0, 1) := by decide +kernel
theorem dX4_readAct_138 : decode cX4_readAct 138 = .ok (.aload_n 1, 1) := by decide +kernel
theorem dX4_readAct_139 : decode cX4_readAct 139 = .ok (.iconst 3, 1) := by decide +kernel
theorem dX4_readAct_140 : decode cX4_readAct 140 = .ok (.invokevirtual 79, 3) := by decide +kernel
theorem dX4_readAct_143 : decode cX4_readAct 143 = .ok (.ireturn, 1) := by decide +kernel
theorem dX4_readAct_144 : decode cX4_readAct 144 = .ok (.aload_n 0, 1) := by decide +kernel
theorem dX4_readAct_145 : decode cX4_readAct 145 = .ok (.aload_n 1, 1) := by decide +kernel
theorem dX4_readAct_146 : decode cX4_readAct 146 = .ok (.iload_n 2, 1) := by decide +kernel
theorem dX4_readAct_147 : decode cX4_readAct 147 = .ok (.invokevirtual 82, 3) := by decide +kernel
theorem dX4_readAct_150 : decode cX4_readAct 150 = .ok (.ireturn, 1) := by decide +kernel
theorem dX4_readAct_151 : decode cX4_readAct 151 = .ok (.aload_n 0, 1) := by decide +kernel
theorem dX4_readAct_152 : decode cX4_readAct 152 = .ok (.aload_n 1, 1) := by decide +kernel
theorem dX4_readAct_153 : decode cX4_readAct 153 = .ok (.iload_n 2, 1) := by decide +kernel
theorem dX4_readAct_154 : decode cX4_readAct 154 = .ok (.invokevirtual 85, 3) := by decide +kernel
theorem dX4_readAct_157 : decode cX4_readAct 157 = .ok (.ireturn, 1) := by decide +kernel
theorem dX4_readAct_158 : decode cX4_readAct 158 = .ok (.aload_n 0, 1) := by decide +kernel
theorem dX4_readAct_159 : decode cX4_readAct 159 = .ok (.iconst 5, 1) := by decide +kernel
theorem dX4_readAct_160 : decode cX4_readAct 160 = .ok (.iconst 0, 1) := by decide +kernel
theorem dX4_readAct_161 : decode cX4_readAct 161 = .ok (.iconst 0, 1) := by decide +kernel
theorem dX4_readAct_162 : decode cX4_readAct 162 = .ok (.invokevirtual 88, 3) := by decide +kernel
theorem dX4_readAct_165 : decode cX4_readAct 165 = .ok (.pop, 1) := by decide +kernel
theorem dX4_readAct_166 : decode cX4_readAct 166 = .ok (.iconst 1, 1) := by decide +kernel
theorem dX4_readAct_167 : decode cX4_readAct 167 = .ok (.ireturn, 1) := by decide +kernel
theorem dX4_readVat_0 : decode cX4_readVat 0 = .ok (.aload_n 0, 1) := by decide +kernel
theorem dX4_readVat_1 : decode cX4_readVat 1 = .ok (.invokevirtual 62, 3) := by decide +kernel
theorem dX4_readVat_4 : decode cX4_readVat 4 = .ok (.bipush 97, 2) := by decide +kernel
theorem dX4_readVat_6 : decode cX4_readVat 6 = .ok (.isub, 1) := by decide +kernel
theorem dX4_readVat_7 : decode cX4_readVat 7 = .ok (.istore_n 1, 1) := by decide +kernel
theorem dX4_readVat_8 : decode cX4_readVat 8 = .ok (.iload_n 1, 1) := by decide +kernel
theorem dX4_readVat_9 : decode cX4_readVat 9 = .ok (.iconst 0, 1) := by decide +kernel
theorem dX4_readVat_10 : decode cX4_readVat 10 = .ok (.iconst 5, 1) := by decide +kernel
theorem dX4_readVat_11 : decode cX4_readVat 11 = .ok (.invokestatic 51, 3) := by decide +kernel
theorem dX4_readVat_14 : decode cX4_readVat 14 = .ok (.ifCond .ne 11, 3) := by decide +kernel
theorem dX4_readVat_17 : decode cX4_readVat 17 = .ok (.aload_n 0, 1) := by decide +kernel
theorem dX4_readVat_18 : decode cX4_readVat 18 = .ok (.iconst 1, 1) := by decide +kernel
theorem dX4_readVat_19 : decode cX4_readVat 19 = .ok (.invokevirtual 70, 3) := by decide +kernel
theorem dX4_readVat_22 : decode cX4_readVat 22 = .ok (.pop, 1) := by decide +kernel
theorem dX4_readVat_23 : decode cX4_readVat 23 = .ok (.iconst (-1), 1) := by decide +kernel
theorem dX4_readVat_24 : decode cX4_readVat 24 = .ok (.ireturn, 1) := by decide +kernel
theorem dX4_readVat_25 : decode cX4_readVat 25 = .ok (.aload_n 0, 1) := by decide +kernel
theorem dX4_readVat_26 : decode cX4_readVat 26 = .ok (.invokevirtual 73, 3) := by decide +kernel
theorem dX4_readVat_29 : decode cX4_readVat 29 = .ok (.iload_n 1, 1) := by decide +kernel
theorem dX4_readVat_30 : decode cX4_readVat 30 = .ok (.ireturn, 1) := by decide +kernel
theorem dX4_readSingle_0 : decode cX4_readSingle 0 = .ok (.aload_n 1, 1) := by decide +kernel
theorem dX4_readSingle_1 : decode cX4_readSingle 1 = .ok (.invokestatic 92, 3) := by decide +kernel
theorem dX4_readSingle_4 : decode cX4_readSingle 4 = .ok (.istore_n 3, 1) := by decide +kernel
theorem dX4_readSingle_5 : decode cX4_readSingle 5 = .ok (.iload_n 3, 1) := by decide +kernel
theorem dX4_readSingle_6 : decode cX4_readSingle 6 = .ok (.iconst (-1), 1) := by decide +kernel
theorem dX4_readSingle_7 : decode cX4_readSingle 7 = .ok (.if_icmp .ne 5, 3) := by decide +kernel
theorem dX4_readSingle_10 : decode cX4_readSingle 10 = .ok (.iconst 0, 1) := by decide +kernel
theorem dX4_readSingle_11 : decode cX4_readSingle 11 = .ok (.ireturn, 1) := by decide +kernel
theorem dX4_readSingle_12 : decode cX4_readSingle 12 = .ok (.aload_n 0, 1) := by decide +kernel
theorem dX4_readSingle_13 : decode cX4_readSingle 13 = .ok (.iload_n 2, 1) := by decide +kernel
theorem dX4_readSingle_14 : decode cX4_readSingle 14 = .ok (.iload_n 3, 1) := by decide +kernel
theorem dX4_readSingle_15 : decode cX4_readSingle 15 = .ok (.iconst 0, 1) := by decide +kernel
theorem dX4_readSingle_16 : decode cX4_readSingle 16 = .ok (.invokevirtual 88, 3) := by decide +kernel
theorem dX4_readSingle_19 : decode cX4_readSingle 19 = .ok (.pop, 1) := by decide +kernel
theorem dX4_readSingle_20 : decode cX4_readSingle 20 = .ok (.iconst 1, 1) := by decide +kernel
theorem dX4_readSingle_21 : decode cX4_readSingle 21 = .ok (.ireturn, 1) := by decide +kernel
theorem dX4_readDouble_0 : decode cX4_readDouble 0 = .ok (.aload_n 1, 1) := by decide +kernel
theorem dX4_readDouble_1 : decode cX4_readDouble 1 = .ok (.invokestatic 92, 3) := by decide +kernel
theorem dX4_readDouble_4 : decode cX4_readDouble 4 = .ok (.istore_n 3, 1) := by decide +kernel
theorem dX4_readDouble_5 : decode cX4_readDouble 5 = .ok (.iload_n 3, 1) := by decide +kernel
theorem dX4_readDouble_6 : decode cX4_readDouble 6 = .ok (.iconst (-1), 1) := by decide +kernel
theorem dX4_readDouble_7 : decode cX4_readDouble 7 = .ok (.if_icmp .ne 7, 3) := by decide +kernel
theorem dX4_readDouble_10 : decode cX4_readDouble 10 = .ok (.iconst (-1), 1) := by decide +kernel
theorem dX4_readDouble_11 : decode cX4_readDouble 11 = .ok (.goto 7, 3) := by decide +kernel
theorem dX4_readDouble_14 : decode cX4_readDouble 14 = .ok (.aload_n 1, 1) := by decide +kernel
theorem dX4_readDouble_15 : decode cX4_readDouble 15 = .ok (.invokestatic 92, 3) := by decide +kernel
theorem dX4_readDouble_18 : decode cX4_readDouble 18 = .ok (.istore 4, 2) := by decide +kernel
theorem dX4_readDouble_20 : decode cX4_readDouble 20 = .ok (.iload 4, 2) := by decide +kernel
theorem dX4_readDouble_22 : decode cX4_readDouble 22 = .ok (.iconst (-1), 1) := by decide +kernel
theorem dX4_readDouble_23 : decode cX4_readDouble 23 = .ok (.if_icmp .ne 5, 3) := by decide +kernel
theorem dX4_readDouble_26 : decode cX4_readDouble 26 = .ok (.iconst 0, 1) := by decide +kernel
theorem dX4_readDouble_27 : decode cX4_readDouble 27 = .ok (.ireturn, 1) := by decide +kernel
theorem dX4_readDouble_28 : decode cX4_readDouble 28 = .ok (.aload_n 0, 1) := by decide +kernel
theorem dX4_readDouble_29 : decode cX4_readDouble 29 = .ok (.iload_n 2, 1) := by decide +kernel
theorem dX4_readDouble_30 : decode cX4_readDouble 30 = .ok (.iload_n 3, 1) := by decide +kernel
theorem dX4_readDouble_31 : decode cX4_readDouble 31 = .ok (.iload 4, 2) := by decide +kernel
theorem dX4_readDouble_33 : decode cX4_readDouble 33 = .ok (.invokevirtual 88, 3) := by decide +kernel
theorem dX4_readDouble_36 : decode cX4_readDouble 36 = .ok (.pop, 1) := by decide +kernel
theorem dX4_readDouble_37 : decode cX4_readDouble 37 = .ok (.iconst 1, 1) := by decide +kernel
theorem dX4_readDouble_38 : decode cX4_readDouble 38 = .ok (.ireturn, 1) := by decide +kernel
theorem dX4_readTest_0 : decode cX4_readTest 0 = .ok (.aload_n 1, 1) := by decide +kernel
theorem dX4_readTest_1 : decode cX4_readTest 1 = .ok (.invokestatic 92, 3) := by decide +kernel
theorem dX4_readTest_4 : decode cX4_readTest 4 = .ok (.istore_n 3, 1) := by decide +kernel
theorem dX4_readTest_5 : decode cX4_readTest 5 = .ok (.iload_n 3, 1) := by decide +kernel
theorem dX4_readTest_6 : decode cX4_readTest 6 = .ok (.iconst (-1), 1) := by decide +kernel
theorem dX4_readTest_7 : decode cX4_readTest 7 = .ok (.if_icmp .eq 29, 3) := by decide +kernel
theorem dX4_readTest_10 : decode cX4_readTest 10 = .ok (.aload_n 1, 1) := by decide +kernel
theorem dX4_readTest_11 : decode cX4_readTest 11 = .ok (.invokevirtual 62, 3) := by decide +kernel
theorem dX4_readTest_14 : decode cX4_readTest 14 = .ok (.bipush 40, 2) := by decide +kernel
theorem dX4_readTest_16 : decode cX4_readTest 16 = .ok (.if_icmp .ne 11, 3) := by decide +kernel
theorem dX4_readTest_19 : decode cX4_readTest 19 = .ok (.aload_n 1, 1) := by decide +kernel
theorem dX4_readTest_20 : decode cX4_readTest 20 = .ok (.iload_n 2, 1) := by decide +kernel
theorem dX4_readTest_21 : decode cX4_readTest 21 = .ok (.invokevirtual 96, 3) := by decide +kernel
theorem dX4_readTest_24 : decode cX4_readTest 24 = .ok (.ifCond .eq 12, 3) := by decide +kernel
theorem dX4_readTest_27 : decode cX4_readTest 27 = .ok (.aload_n 1, 1) := by decide +kernel
theorem dX4_readTest_28 : decode cX4_readTest 28 = .ok (.bipush 40, 2) := by decide +kernel
theorem dX4_readTest_30 : decode cX4_readTest 30 = .ok (.invokevirtual 99, 3) := by decide +kernel
theorem dX4_readTest_33 : decode cX4_readTest 33 = .ok (.ifCond .ne 5, 3) := by decide +kernel
theorem dX4_readTest_36 : decode cX4_readTest 36 = .ok (.iconst (-1), 1) := by decide +kernel
theorem dX4_readTest_37 : decode cX4_readTest 37 = .ok (.ireturn, 1) := by decide +kernel
theorem dX4_readTest_38 : decode cX4_readTest 38 = .ok (.aload_n 0, 1) := by decide +kernel
theorem dX4_readTest_39 : decode cX4_readTest 39 = .ok (.iconst 4, 1) := by decide +kernel
theorem dX4_readTest_40 : decode cX4_readTest 40 = .ok (.iload_n 3, 1) := by decide +kernel
theorem dX4_readTest_41 : decode cX4_readTest 41 = .ok (.iconst 0, 1) := by decide +kernel
theorem dX4_readTest_42 : decode cX4_readTest 42 = .ok (.invokevirtual 88, 3) := by decide +kernel
theorem dX4_readTest_45 : decode cX4_readTest 45 = .ok (.ireturn, 1) := by decide +kernel
theorem dX4_readWhile_0 : decode cX4_readWhile 0 = .ok (.aload_n 0, 1) := by decide +kernel
theorem dX4_readWhile_1 : decode cX4_readWhile 1 = .ok (.aload_n 1, 1) := by decide +kernel
theorem dX4_readWhile_2 : decode cX4_readWhile 2 = .ok (.iload_n 2, 1) := by decide +kernel
theorem dX4_readWhile_3 : decode cX4_readWhile 3 = .ok (.invokevirtual 102, 3) := by decide +kernel
theorem dX4_readWhile_6 : decode cX4_readWhile 6 = .ok (.istore_n 3, 1) := by decide +kernel
theorem dX4_readWhile_7 : decode cX4_readWhile 7 = .ok (.iload_n 3, 1) := by decide +kernel
theorem dX4_readWhile_8 : decode cX4_readWhile 8 = .ok (.iconst (-1), 1) := by decide +kernel
theorem dX4_readWhile_9 : decode cX4_readWhile 9 = .ok (.if_icmp .eq 23, 3) := by decide +kernel
theorem dX4_readWhile_12 : decode cX4_readWhile 12 = .ok (.aload_n 0, 1) := by decide +kernel
theorem dX4_readWhile_13 : decode cX4_readWhile 13 = .ok (.aload_n 1, 1) := by decide +kernel
theorem dX4_readWhile_14 : decode cX4_readWhile 14 = .ok (.iload_n 2, 1) := by decide +kernel
theorem dX4_readWhile_15 : decode cX4_readWhile 15 = .ok (.iconst 1, 1) := by decide +kernel
theorem dX4_readWhile_16 : decode cX4_readWhile 16 = .ok (.iadd, 1) := by decide +kernel
theorem dX4_readWhile_17 : decode cX4_readWhile 17 = .ok (.invokevirtual 40, 3) := by decide +kernel
theorem dX4_readWhile_20 : decode cX4_readWhile 20 = .ok (.ifCond .eq 12, 3) := by decide +kernel
theorem dX4_readWhile_23 : decode cX4_readWhile 23 = .ok (.aload_n 1, 1) := by decide +kernel
theorem dX4_readWhile_24 : decode cX4_readWhile 24 = .ok (.bipush 41, 2) := by decide +kernel
theorem dX4_readWhile_26 : decode cX4_readWhile 26 = .ok (.invokevirtual 99, 3) := by decide +kernel
theorem dX4_readWhile_29 : decode cX4_readWhile 29 = .ok (.ifCond .ne 5, 3) := by decide +kernel
theorem dX4_readWhile_32 : decode cX4_readWhile 32 = .ok (.iconst 0, 1) := by decide +kernel
theorem dX4_readWhile_33 : decode cX4_readWhile 33 = .ok (.ireturn, 1) := by decide +kernel
theorem dX4_readWhile_34 : decode cX4_readWhile 34 = .ok (.aload_n 0, 1) := by decide +kernel
theorem dX4_readWhile_35 : decode cX4_readWhile 35 = .ok (.aload_n 0, 1) := by decide +kernel
theorem dX4_readWhile_36 : decode cX4_readWhile 36 = .ok (.bipush 6, 2) := by decide +kernel
theorem dX4_readWhile_38 : decode cX4_readWhile 38 = .ok (.iconst 0, 1) := by decide +kernel
theorem dX4_readWhile_39 : decode cX4_readWhile 39 = .ok (.iconst 0, 1) := by decide +kernel
theorem dX4_readWhile_40 : decode cX4_readWhile 40 = .ok (.invokevirtual 88, 3) := by decide +kernel
theorem dX4_readWhile_43 : decode cX4_readWhile 43 = .ok (.iload_n 3, 1) := by decide +kernel
theorem dX4_readWhile_44 : decode cX4_readWhile 44 = .ok (.invokevirtual 106, 3) := by decide +kernel
theorem dX4_readWhile_47 : decode cX4_readWhile 47 = .ok (.aload_n 0, 1) := by decide +kernel
theorem dX4_readWhile_48 : decode cX4_readWhile 48 = .ok (.iload_n 3, 1) := by decide +kernel
theorem dX4_readWhile_49 : decode cX4_readWhile 49 = .ok (.aload_n 0, 1) := by decide +kernel
theorem dX4_readWhile_50 : decode cX4_readWhile 50 = .ok (.getfield 27, 3) := by decide +kernel
theorem dX4_readWhile_53 : decode cX4_readWhile 53 = .ok (.invokevirtual 106, 3) := by decide +kernel
theorem dX4_readWhile_56 : decode cX4_readWhile 56 = .ok (.iconst 1, 1) := by decide +kernel
theorem dX4_readWhile_57 : decode cX4_readWhile 57 = .ok (.ireturn, 1) := by decide +kernel
theorem dX4_readIf_0 : decode cX4_readIf 0 = .ok (.aload_n 0, 1) := by decide +kernel
theorem dX4_readIf_1 : decode cX4_readIf 1 = .ok (.aload_n 1, 1) := by decide +kernel
theorem dX4_readIf_2 : decode cX4_readIf 2 = .ok (.iload_n 2, 1) := by decide +kernel
theorem dX4_readIf_3 : decode cX4_readIf 3 = .ok (.invokevirtual 102, 3) := by decide +kernel
theorem dX4_readIf_6 : decode cX4_readIf 6 = .ok (.istore_n 3, 1) := by decide +kernel
theorem dX4_readIf_7 : decode cX4_readIf 7 = .ok (.iload_n 3, 1) := by decide +kernel
theorem dX4_readIf_8 : decode cX4_readIf 8 = .ok (.iconst (-1), 1) := by decide +kernel
theorem dX4_readIf_9 : decode cX4_readIf 9 = .ok (.if_icmp .eq 23, 3) := by decide +kernel
theorem dX4_readIf_12 : decode cX4_readIf 12 = .ok (.aload_n 0, 1) := by decide +kernel
theorem dX4_readIf_13 : decode cX4_readIf 13 = .ok (.aload_n 1, 1) := by decide +kernel
theorem dX4_readIf_14 : decode cX4_readIf 14 = .ok (.iload_n 2, 1) := by decide +kernel
theorem dX4_readIf_15 : decode cX4_readIf 15 = .ok (.iconst 1, 1) := by decide +kernel
theorem dX4_readIf_16 : decode cX4_readIf 16 = .ok (.iadd, 1) := by decide +kernel
theorem dX4_readIf_17 : decode cX4_readIf 17 = .ok (.invokevirtual 40, 3) := by decide +kernel
theorem dX4_readIf_20 : decode cX4_readIf 20 = .ok (.ifCond .eq 12, 3) := by decide +kernel
theorem dX4_readIf_23 : decode cX4_readIf 23 = .ok (.aload_n 1, 1) := by decide +kernel
theorem dX4_readIf_24 : decode cX4_readIf 24 = .ok (.bipush 58, 2) := by decide +kernel
theorem dX4_readIf_26 : decode cX4_readIf 26 = .ok (.invokevirtual 99, 3) := by decide +kernel
theorem dX4_readIf_29 : decode cX4_readIf 29 = .ok (.ifCond .ne 5, 3) := by decide +kernel
theorem dX4_readIf_32 : decode cX4_readIf 32 = .ok (.iconst 0, 1) := by decide +kernel
theorem dX4_readIf_33 : decode cX4_readIf 33 = .ok (.ireturn, 1) := by decide +kernel
theorem dX4_readIf_34 : decode cX4_readIf 34 = .ok (.aload_n 0, 1) := by decide +kernel
theorem dX4_readIf_35 : decode cX4_readIf 35 = .ok (.bipush 6, 2) := by decide +kernel
theorem dX4_readIf_37 : decode cX4_readIf 37 = .ok (.iconst 0, 1) := by decide +kernel
theorem dX4_readIf_38 : decode cX4_readIf 38 = .ok (.iconst 0, 1) := by decide +kernel
theorem dX4_readIf_39 : decode cX4_readIf 39 = .ok (.invokevirtual 88, 3) := by decide +kernel
theorem dX4_readIf_42 : decode cX4_readIf 42 = .ok (.istore 4, 2) := by decide +kernel
theorem dX4_readIf_44 : decode cX4_readIf 44 = .ok (.aload_n 0, 1) := by decide +kernel
theorem dX4_readIf_45 : decode cX4_readIf 45 = .ok (.iload_n 3, 1) := by decide +kernel
theorem dX4_readIf_46 : decode cX4_readIf 46 = .ok (.aload_n 0, 1) := by decide +kernel
theorem dX4_readIf_47 : decode cX4_readIf 47 = .ok (.getfield 27, 3) := by decide +kernel
theorem dX4_readIf_50 : decode cX4_readIf 50 = .ok (.invokevirtual 106, 3) := by decide +kernel
theorem dX4_readIf_53 : decode cX4_readIf 53 = .ok (.aload_n 0, 1) := by decide +kernel
theorem dX4_readIf_54 : decode cX4_readIf 54 = .ok (.aload_n 1, 1) := by decide +kernel
theorem dX4_readIf_55 : decode cX4_readIf 55 = .ok (.iload_n 2, 1) := by decide +kernel
theorem dX4_readIf_56 : decode cX4_readIf 56 = .ok (.iconst 1, 1) := by decide +kernel
theorem dX4_readIf_57 : decode cX4_readIf 57 = .ok (.iadd, 1) := by decide +kernel
theorem dX4_readIf_58 : decode cX4_readIf 58 = .ok (.invokevirtual 40, 3) := by decide +kernel
theorem dX4_readIf_61 : decode cX4_readIf 61 = .ok (.ifCond .eq 12, 3) := by decide +kernel
theorem dX4_readIf_64 : decode cX4_readIf 64 = .ok (.aload_n 1, 1) := by decide +kernel
theorem dX4_readIf_65 : decode cX4_readIf 65 = .ok (.bipush 41, 2) := by decide +kernel
theorem dX4_readIf_67 : decode cX4_readIf 67 = .ok (.invokevirtual 99, 3) := by decide +kernel
theorem dX4_readIf_70 : decode cX4_readIf 70 = .ok (.ifCond .ne 5, 3) := by decide +kernel
theorem dX4_readIf_73 : decode cX4_readIf 73 = .ok (.iconst 0, 1) := by decide +kernel
theorem dX4_readIf_74 : decode cX4_readIf 74 = .ok (.ireturn, 1) := by decide +kernel
theorem dX4_readIf_75 : decode cX4_readIf 75 = .ok (.aload_n 0, 1) := by decide +kernel
theorem dX4_readIf_76 : decode cX4_readIf 76 = .ok (.iload 4, 2) := by decide +kernel
theorem dX4_readIf_78 : decode cX4_readIf 78 = .ok (.aload_n 0, 1) := by decide +kernel
theorem dX4_readIf_79 : decode cX4_readIf 79 = .ok (.getfield 27, 3) := by decide +kernel
theorem dX4_readIf_82 : decode cX4_readIf 82 = .ok (.invokevirtual 106, 3) := by decide +kernel
theorem dX4_readIf_85 : decode cX4_readIf 85 = .ok (.iconst 1, 1) := by decide +kernel
theorem dX4_readIf_86 : decode cX4_readIf 86 = .ok (.ireturn, 1) := by decide +kernel
theorem dX5_init_0 : decode cX5_init 0 = .ok (.aload_n 0, 1) := by decide +kernel
theorem dX5_init_1 : decode cX5_init 1 = .ok (.invokespecial 1, 3) := by decide +kernel
theorem dX5_init_4 : decode cX5_init 4 = .ok (.aload_n 0, 1) := by decide +kernel
theorem dX5_init_5 : decode cX5_init 5 = .ok (.aload_n 1, 1) := by decide +kernel
theorem dX5_init_6 : decode cX5_init 6 = .ok (.putfield 7, 3) := by decide +kernel
theorem dX5_init_9 : decode cX5_init 9 = .ok (.aload_n 0, 1) := by decide +kernel
theorem dX5_init_10 : decode cX5_init 10 = .ok (.aload_n 2, 1) := by decide +kernel
theorem dX5_init_11 : decode cX5_init 11 = .ok (.putfield 13, 3) := by decide +kernel
theorem dX5_init_14 : decode cX5_init 14 = .ok (.aload_n 0, 1) := by decide +kernel
theorem dX5_init_15 : decode cX5_init 15 = .ok (.aload_n 3, 1) := by decide +kernel
theorem dX5_init_16 : decode cX5_init 16 = .ok (.putfield 17, 3) := by decide +kernel
theorem dX5_init_19 : decode cX5_init 19 = .ok (.return_, 1) := by decide +kernel
theorem dX5_seek_0 : decode cX5_seek 0 = .ok (.aload_n 0, 1) := by decide +kernel
theorem dX5_seek_1 : decode cX5_seek 1 = .ok (.iconst 2, 1) := by decide +kernel
theorem dX5_seek_2 : decode cX5_seek 2 = .ok (.putfield 20, 3) := by decide +kernel
theorem dX5_seek_5 : decode cX5_seek 5 = .ok (.aload_n 0, 1) := by decide +kernel
theorem dX5_seek_6 : decode cX5_seek 6 = .ok (.aload_n 1, 1) := by decide +kernel
theorem dX5_seek_7 : decode cX5_seek 7 = .ok (.invokevirtual 24, 3) := by decide +kernel
theorem dX5_seek_10 : decode cX5_seek 10 = .ok (.ifCond .ne 33, 3) := by decide +kernel
theorem dX5_seek_13 : decode cX5_seek 13 = .ok (.aload_n 0, 1) := by decide +kernel
theorem dX5_seek_14 : decode cX5_seek 14 = .ok (.getfield 17, 3) := by decide +kernel
theorem dX5_seek_17 : decode cX5_seek 17 = .ok (.aload_n 1, 1) := by decide +kernel
theorem dX5_seek_18 : decode cX5_seek 18 = .ok (.invokevirtual 28, 3) := by decide +kernel
theorem dX5_seek_21 : decode cX5_seek 21 = .ok (.ifCond .eq 21, 3) := by decide +kernel
theorem dX5_seek_24 : decode cX5_seek 24 = .ok (.aload_n 0, 1) := by decide +kernel
theorem dX5_seek_25 : decode cX5_seek 25 = .ok (.getfield 17, 3) := by decide +kernel
theorem dX5_seek_28 : decode cX5_seek 28 = .ok (.getfield 33, 3) := by decide +kernel
theorem dX5_seek_31 : decode cX5_seek 31 = .ok (.sipush 20000, 3) := by decide +kernel
theorem dX5_seek_34 : decode cX5_seek 34 = .ok (.if_icmp .gt 8, 3) := by decide +kernel
theorem dX5_seek_37 : decode cX5_seek 37 = .ok (.aload_n 0, 1) := by decide +kernel
theorem dX5_seek_38 : decode cX5_seek 38 = .ok (.iconst 0, 1) := by decide +kernel
theorem dX5_seek_39 : decode cX5_seek 39 = .ok (.putfield 20, 3) := by decide +kernel
theorem dX5_seek_42 : decode cX5_seek 42 = .ok (.return_, 1) := by decide +kernel
theorem dX5_seek_43 : decode cX5_seek 43 = .ok (.aload_n 0, 1) := by decide +kernel
theorem dX5_seek_44 : decode cX5_seek 44 = .ok (.getfield 36, 3) := by decide +kernel
theorem dX5_seek_47 : decode cX5_seek 47 = .ok (.sipush 20000, 3) := by decide +kernel
theorem dX5_seek_50 : decode cX5_seek 50 = .ok (.if_icmp .le 4, 3) := by decide +kernel
theorem dX5_seek_53 : decode cX5_seek 53 = .ok (.return_, 1) := by decide +kernel
theorem dX5_seek_54 : decode cX5_seek 54 = .ok (.aload_n 0, 1) := by decide +kernel
theorem dX5_seek_55 : decode cX5_seek 55 = .ok (.aload_n 1, 1) := by decide +kernel
theorem dX5_seek_56 : decode cX5_seek 56 = .ok (.invokevirtual 39, 3) := by decide +kernel
theorem dX5_seek_59 : decode cX5_seek 59 = .ok (.aload_n 0, 1) := by decide +kernel
theorem dX5_seek_60 : decode cX5_seek 60 = .ok (.getfield 43, 3) := by decide +kernel
theorem dX5_seek_63 : decode cX5_seek 63 = .ok (.aload_n 0, 1) := by decide +kernel
theorem dX5_seek_64 : decode cX5_seek 64 = .ok (.getfield 36, 3) := by decide +kernel
theorem dX5_seek_67 : decode cX5_seek 67 = .ok (.iadd, 1) := by decide +kernel
theorem dX5_seek_68 : decode cX5_seek 68 = .ok (.sipush 20000, 3) := by decide +kernel
theorem dX5_seek_71 : decode cX5_seek 71 = .ok (.if_icmp .gt 8, 3) := by decide +kernel
theorem dX5_seek_74 : decode cX5_seek 74 = .ok (.aload_n 0, 1) := by decide +kernel
theorem dX5_seek_75 : decode cX5_seek 75 = .ok (.iconst 1, 1) := by decide +kernel
theorem dX5_seek_76 : decode cX5_seek 76 = .ok (.putfield 20, 3) := by decide +kernel
theorem dX5_seek_79 : decode cX5_seek 79 = .ok (.return_, 1) := by decide +kernel
theorem dX5_findLength_0 : decode cX5_findLength 0 = .ok (.aload_n 0, 1) := by decide +kernel
theorem dX5_findLength_1 : decode cX5_findLength 1 = .ok (.getfield 13, 3) := by decide +kernel
theorem dX5_findLength_4 : decode cX5_findLength 4 = .ok (.aload_n 0, 1) := by decide +kernel
theorem dX5_findLength_5 : decode cX5_findLength 5 = .ok (.getfield 7, 3) := by decide +kernel
theorem dX5_findLength_8 : decode cX5_findLength 8 = .ok (.getfield 46, 3) := by decide +kernel
theorem dX5_findLength_11 : decode cX5_findLength 11 = .ok (.iconst 0, 1) := by decide +kernel
theorem dX5_findLength_12 : decode cX5_findLength 12 = .ok (.invokevirtual 52, 3) := by decide +kernel
theorem dX5_findLength_15 : decode cX5_findLength 15 = .ok (.aload_n 0, 1) := by decide +kernel
theorem dX5_findLength_16 : decode cX5_findLength 16 = .ok (.getfield 17, 3) := by decide +kernel
theorem dX5_findLength_19 : decode cX5_findLength 19 = .ok (.aload_n 0, 1) := by decide +kernel
theorem dX5_findLength_20 : decode cX5_findLength 20 = .ok (.getfield 7, 3) := by decide +kernel
theorem dX5_findLength_23 : decode cX5_findLength 23 = .ok (.getfield 46, 3) := by decide +kernel
theorem dX5_findLength_26 : decode cX5_findLength 26 = .ok (.iconst 0, 1) := by decide +kernel
theorem dX5_findLength_27 : decode cX5_findLength 27 = .ok (.invokevirtual 52, 3) := by decide +kernel
theorem dX5_findLength_30 : decode cX5_findLength 30 = .ok (.iconst 1, 1) := by decide +kernel
theorem dX5_findLength_31 : decode cX5_findLength 31 = .ok (.istore_n 2, 1) := by decide +kernel
theorem dX5_findLength_32 : decode cX5_findLength 32 = .ok (.aload_n 0, 1) := by decide +kernel
theorem dX5_findLength_33 : decode cX5_findLength 33 = .ok (.iconst 0, 1) := by decide +kernel
theorem dX5_findLength_34 : decode cX5_findLength 34 = .ok (.putfield 36, 3) := by decide +kernel
theorem dX5_findLength_37 : decode cX5_findLength 37 = .ok (.iconst 0, 1) := by decide +kernel
theorem dX5_findLength_38 : decode cX5_findLength 38 = .ok (.istore_n 3, 1) := by decide +kernel
theorem dX5_findLength_39 : decode cX5_findLength 39 = .ok (.iload_n 3, 1) := by decide +kernel
theorem dX5_findLength_40 : decode cX5_findLength 40 = .ok (.ldc 56, 2) := by decide +kernel
theorem dX5_findLength_42 : decode cX5_findLength 42 = .ok (.if_icmp .ge 83, 3) := by decide +kernel
theorem dX5_findLength_45 : decode cX5_findLength 45 = .ok (.aload_n 0, 1) := by decide +kernel
theorem dX5_findLength_46 : decode cX5_findLength 46 = .ok (.getfield 17, 3) := by decide +kernel
theorem dX5_findLength_49 : decode cX5_findLength 49 = .ok (.aload_n 1, 1) := by decide +kernel
theorem dX5_findLength_50 : decode cX5_findLength 50 = .ok (.invokevirtual 28, 3) := by decide +kernel
theorem dX5_findLength_53 : decode cX5_findLength 53 = .ok (.ifCond .ne 72, 3) := by decide +kernel
theorem dX5_findLength_56 : decode cX5_findLength 56 = .ok (.aload_n 0, 1) := by decide +kernel
theorem dX5_findLength_57 : decode cX5_findLength 57 = .ok (.getfield 17, 3) := by decide +kernel
theorem dX5_findLength_60 : decode cX5_findLength 60 = .ok (.aload_n 1, 1) := by decide +kernel
theorem dX5_findLength_61 : decode cX5_findLength 61 = .ok (.iconst 1, 1) := by decide +kernel
theorem dX5_findLength_62 : decode cX5_findLength 62 = .ok (.invokevirtual 57, 3) := by decide +kernel
theorem dX5_findLength_65 : decode cX5_findLength 65 = .ok (.aload_n 0, 1) := by decide +kernel
theorem dX5_findLength_66 : decode cX5_findLength 66 = .ok (.dup, 1) := by decide +kernel
theorem dX5_findLength_67 : decode cX5_findLength 67 = .ok (.getfield 36, 3) := by decide +kernel
theorem dX5_findLength_70 : decode cX5_findLength 70 = .ok (.iconst 1, 1) := by decide +kernel
theorem dX5_findLength_71 : decode cX5_findLength 71 = .ok (.iadd, 1) := by decide +kernel
theorem dX5_findLength_72 : decode cX5_findLength 72 = .ok (.putfield 36, 3) := by decide +kernel
theorem dX5_findLength_75 : decode cX5_findLength 75 = .ok (.aload_n 0, 1) := by decide +kernel
theorem dX5_findLength_76 : decode cX5_findLength 76 = .ok (.getfield 13, 3) := by decide +kernel
theorem dX5_findLength_79 : decode cX5_findLength 79 = .ok (.aload_n 0, 1) := by decide +kernel
theorem dX5_findLength_80 : decode cX5_findLength 80 = .ok (.getfield 17, 3) := by decide +kernel
theorem dX5_findLength_83 : decode cX5_findLength 83 = .ok (.invokevirtual 61, 3) := by decide +kernel
theorem dX5_findLength_86 : decode cX5_findLength 86 = .ok (.ifCond .eq 5, 3) := by decide +kernel
theorem dX5_findLength_89 : decode cX5_findLength 89 = .ok (.iconst 1, 1) := by decide +kernel
theorem dX5_findLength_90 : decode cX5_findLength 90 = .ok (.ireturn, 1) := by decide +kernel
theorem dX5_findLength_91 : decode cX5_findLength 91 = .ok (.aload_n 0, 1) := by decide +kernel
theorem dX5_findLength_92 : decode cX5_findLength 92 = .ok (.getfield 36, 3) := by decide +kernel
theorem dX5_findLength_95 : decode cX5_findLength 95 = .ok (.iload_n 2, 1) := by decide +kernel
theorem dX5_findLength_96 : decode cX5_findLength 96 = .ok (.if_icmp .ne 23, 3) := by decide +kernel
theorem dX5_findLength_99 : decode cX5_findLength 99 = .ok (.aload_n 0, 1) := by decide +kernel
theorem dX5_findLength_100 : decode cX5_findLength 100 = .ok (.getfield 13, 3) := by decide +kernel
theorem dX5_findLength_103 : decode cX5_findLength 103 = .ok (.aload_n 0, 1) := by decide +kernel
theorem dX5_findLength_104 : decode cX5_findLength 104 = .ok (.getfield 17, 3) := by decide +kernel
theorem dX5_findLength_107 : decode cX5_findLength 107 = .ok (.invokevirtual 65, 3) := by decide +kernel
theorem dX5_findLength_110 : decode cX5_findLength 110 = .ok (.iload_n 2, 1) := by decide +kernel
theorem dX5_findLength_111 : decode cX5_findLength 111 = .ok (.iconst 2, 1) := by decide +kernel
theorem dX5_findLength_112 : decode cX5_findLength 112 = .ok (.imul, 1) := by decide +kernel
theorem dX5_findLength_113 : decode cX5_findLength 113 = .ok (.istore_n 2, 1) := by decide +kernel
theorem dX5_findLength_114 : decode cX5_findLength 114 = .ok (.aload_n 0, 1) := by decide +kernel
theorem dX5_findLength_115 : decode cX5_findLength 115 = .ok (.iconst 0, 1) := by decide +kernel
theorem dX5_findLength_116 : decode cX5_findLength 116 = .ok (.putfield 36, 3) := by decide +kernel
theorem dX5_findLength_119 : decode cX5_findLength 119 = .ok (.iinc 3 1, 3) := by decide +kernel
theorem dX5_findLength_122 : decode cX5_findLength 122 = .ok (.goto (-83), 3) := by decide +kernel
theorem dX5_findLength_125 : decode cX5_findLength 125 = .ok (.iconst 0, 1) := by decide +kernel
theorem dX5_findLength_126 : decode cX5_findLength 126 = .ok (.ireturn, 1) := by decide +kernel
theorem dX5_findAhead_0 : decode cX5_findAhead 0 = .ok (.aload_n 0, 1) := by decide +kernel
theorem dX5_findAhead_1 : decode cX5_findAhead 1 = .ok (.getfield 13, 3) := by decide +kernel
theorem dX5_findAhead_4 : decode cX5_findAhead 4 = .ok (.aload_n 0, 1) := by decide +kernel
theorem dX5_findAhead_5 : decode cX5_findAhead 5 = .ok (.getfield 7, 3) := by decide +kernel
theorem dX5_findAhead_8 : decode cX5_findAhead 8 = .ok (.getfield 46, 3) := by decide +kernel
theorem dX5_findAhead_11 : decode cX5_findAhead 11 = .ok (.iconst 0, 1) := by decide +kernel
theorem dX5_findAhead_12 : decode cX5_findAhead 12 = .ok (.invokevirtual 52, 3) := by decide +kernel
theorem dX5_findAhead_15 : decode cX5_findAhead 15 = .ok (.aload_n 0, 1) := by decide +kernel
theorem dX5_findAhead_16 : decode cX5_findAhead 16 = .ok (.getfield 17, 3) := by decide +kernel
theorem dX5_findAhead_19 : decode cX5_findAhead 19 = .ok (.aload_n 0, 1) := by decide +kernel
theorem dX5_findAhead_20 : decode cX5_findAhead 20 = .ok (.getfield 7, 3) := by decide +kernel
theorem dX5_findAhead_23 : decode cX5_findAhead 23 = .ok (.getfield 46, 3) := by decide +kernel
theorem dX5_findAhead_26 : decode cX5_findAhead 26 = .ok (.iconst 0, 1) := by decide +kernel
theorem dX5_findAhead_27 : decode cX5_findAhead 27 = .ok (.invokevirtual 52, 3) := by decide +kernel
theorem dX5_findAhead_30 : decode cX5_findAhead 30 = .ok (.iconst 0, 1) := by decide +kernel
theorem dX5_findAhead_31 : decode cX5_findAhead 31 = .ok (.istore_n 2, 1) := by decide +kernel
theorem dX5_findAhead_32 : decode cX5_findAhead 32 = .ok (.iload_n 2, 1) := by decide +kernel
theorem dX5_findAhead_33 : decode cX5_findAhead 33 = .ok (.aload_n 0, 1) := by decide +kernel
theorem dX5_findAhead_34 : decode cX5_findAhead 34 = .ok (.getfield 36, 3) := by decide +kernel
theorem dX5_findAhead_37 : decode cX5_findAhead 37 = .ok (.if_icmp .ge 18, 3) := by decide +kernel
theorem dX5_findAhead_40 : decode cX5_findAhead 40 = .ok (.aload_n 0, 1) := by decide +kernel
theorem dX5_findAhead_41 : decode cX5_findAhead 41 = .ok (.getfield 17, 3) := by decide +kernel
theorem dX5_findAhead_44 : decode cX5_findAhead 44 = .ok (.aload_n 1, 1) := by decide +kernel
theorem dX5_findAhead_45 : decode cX5_findAhead 45 = .ok (.iconst 1, 1) := by decide +kernel
theorem dX5_findAhead_46 : decode cX5_findAhead 46 = .ok (.invokevirtual 57, 3) := by decide +kernel
theorem dX5_findAhead_49 : decode cX5_findAhead 49 = .ok (.iinc 2 1, 3) := by decide +kernel
theorem dX5_findAhead_52 : decode cX5_findAhead 52 = .ok (.goto (-20), 3) := by decide +kernel
theorem dX5_findAhead_55 : decode cX5_findAhead 55 = .ok (.aload_n 0, 1) := by decide +kernel
theorem dX5_findAhead_56 : decode cX5_findAhead 56 = .ok (.iconst 0, 1) := by decide +kernel
theorem dX5_findAhead_57 : decode cX5_findAhead 57 = .ok (.putfield 43, 3) := by decide +kernel
theorem dX5_findAhead_60 : decode cX5_findAhead 60 = .ok (.iconst 0, 1) := by decide +kernel
theorem dX5_findAhead_61 : decode cX5_findAhead 61 = .ok (.istore_n 2, 1) := by decide +kernel
theorem dX5_findAhead_62 : decode cX5_findAhead 62 = .ok (.iload_n 2, 1) := by decide +kernel
theorem dX5_findAhead_63 : decode cX5_findAhead 63 = .ok (.sipush 20000, 3) := by decide +kernel
theorem dX5_findAhead_66 : decode cX5_findAhead 66 = .ok (.if_icmp .ge 51, 3) := by decide +kernel
theorem dX5_findAhead_69 : decode cX5_findAhead 69 = .ok (.aload_n 0, 1) := by decide +kernel
theorem dX5_findAhead_70 : decode cX5_findAhead 70 = .ok (.getfield 13, 3) := by decide +kernel
theorem dX5_findAhead_73 : decode cX5_findAhead 73 = .ok (.aload_n 0, 1) := by decide +kernel
theorem dX5_findAhead_74 : decode cX5_findAhead 74 = .ok (.getfield 17, 3) := by decide +kernel
theorem dX5_findAhead_77 : decode cX5_findAhead 77 = .ok (.invokevirtual 61, 3) := by decide +kernel
theorem dX5_findAhead_80 : decode cX5_findAhead 80 = .ok (.ifCond .ne 37, 3) := by decide +kernel
theorem dX5_findAhead_83 : decode cX5_findAhead 83 = .ok (.aload_n 0, 1) := by decide +kernel
theorem dX5_findAhead_84 : decode cX5_findAhead 84 = .ok (.getfield 13, 3) := by decide +kernel
theorem dX5_findAhead_87 : decode cX5_findAhead 87 = .ok (.aload_n 1, 1) := by decide +kernel
theorem dX5_findAhead_88 : decode cX5_findAhead 88 = .ok (.iconst 1, 1) := by decide +kernel
theorem dX5_findAhead_89 : decode cX5_findAhead 89 = .ok (.invokevirtual 57, 3) := by decide +kernel
theorem dX5_findAhead_92 : decode cX5_findAhead 92 = .ok (.aload_n 0, 1) := by decide +kernel
theorem dX5_findAhead_93 : decode cX5_findAhead 93 = .ok (.getfield 17, 3) := by decide +kernel
theorem dX5_findAhead_96 : decode cX5_findAhead 96 = .ok (.aload_n 1, 1) := by decide +kernel
theorem dX5_findAhead_97 : decode cX5_findAhead 97 = .ok (.iconst 1, 1) := by decide +kernel
theorem dX5_findAhead_98 : decode cX5_findAhead 98 = .ok (.invokevirtual 57, 3) := by decide +kernel
theorem dX5_findAhead_101 : decode cX5_findAhead 101 = .ok (.aload_n 0, 1) := by decide +kernel
theorem dX5_findAhead_102 : decode cX5_findAhead 102 = .ok (.dup, 1) := by decide +kernel
theorem dX5_findAhead_103 : decode cX5_findAhead 103 = .ok (.getfield 43, 3) := by decide +kernel
theorem dX5_findAhead_106 : decode cX5_findAhead 106 = .ok (.iconst 1, 1) := by decide +kernel
theorem dX5_findAhead_107 : decode cX5_findAhead 107 = .ok (.iadd, 1) := by decide +kernel
theorem dX5_findAhead_108 : decode cX5_findAhead 108 = .ok (.putfield 43, 3) := by decide +kernel
theorem dX5_findAhead_111 : decode cX5_findAhead 111 = .ok (.iinc 2 1, 3) := by decide +kernel
theorem dX5_findAhead_114 : decode cX5_findAhead 114 = .ok (.goto (-52), 3) := by decide +kernel
theorem dX5_findAhead_117 : decode cX5_findAhead 117 = .ok (.return_, 1) := by decide +kernel
theorem dX6_init_0 : decode cX6_init 0 = .ok (.aload_n 0, 1) := by decide +kernel
theorem dX6_init_1 : decode cX6_init 1 = .ok (.invokespecial 3, 3) := by decide +kernel
theorem dX6_init_4 : decode cX6_init 4 = .ok (.aload_n 0, 1) := by decide +kernel
theorem dX6_init_5 : decode cX6_init 5 = .ok (.bipush 120, 2) := by decide +kernel
theorem dX6_init_7 : decode cX6_init 7 = .ok (.newarray .int, 2) := by decide +kernel
theorem dX6_init_9 : decode cX6_init 9 = .ok (.putfield 9, 3) := by decide +kernel
theorem dX6_init_12 : decode cX6_init 12 = .ok (.aload_n 0, 1) := by decide +kernel
theorem dX6_init_13 : decode cX6_init 13 = .ok (.bipush 120, 2) := by decide +kernel
theorem dX6_init_15 : decode cX6_init 15 = .ok (.newarray .int, 2) := by decide +kernel
theorem dX6_init_17 : decode cX6_init 17 = .ok (.putfield 15, 3) := by decide +kernel
theorem dX6_init_20 : decode cX6_init 20 = .ok (.aload_n 0, 1) := by decide +kernel
theorem dX6_init_21 : decode cX6_init 21 = .ok (.bipush 120, 2) := by decide +kernel
theorem dX6_init_23 : decode cX6_init 23 = .ok (.newarray .int, 2) := by decide +kernel
theorem dX6_init_25 : decode cX6_init 25 = .ok (.putfield 18, 3) := by decide +kernel
theorem dX6_init_28 : decode cX6_init 28 = .ok (.return_, 1) := by decide +kernel
theorem dX6_add_0 : decode cX6_add 0 = .ok (.aload_n 0, 1) := by decide +kernel
theorem dX6_add_1 : decode cX6_add 1 = .ok (.getfield 21, 3) := by decide +kernel
theorem dX6_add_4 : decode cX6_add 4 = .ok (.istore_n 3, 1) := by decide +kernel
theorem dX6_add_5 : decode cX6_add 5 = .ok (.iload_n 3, 1) := by decide +kernel
theorem dX6_add_6 : decode cX6_add 6 = .ok (.bipush 120, 2) := by decide +kernel
theorem dX6_add_8 : decode cX6_add 8 = .ok (.if_icmp .ge 27, 3) := by decide +kernel
theorem dX6_add_11 : decode cX6_add 11 = .ok (.aload_n 0, 1) := by decide +kernel
theorem dX6_add_12 : decode cX6_add 12 = .ok (.getfield 9, 3) := by decide +kernel
theorem dX6_add_15 : decode cX6_add 15 = .ok (.iload_n 3, 1) := by decide +kernel
theorem dX6_add_16 : decode cX6_add 16 = .ok (.iload_n 1, 1) := by decide +kernel
theorem dX6_add_17 : decode cX6_add 17 = .ok (.iastore, 1) := by decide +kernel
theorem dX6_add_18 : decode cX6_add 18 = .ok (.aload_n 0, 1) := by decide +kernel
theorem dX6_add_19 : decode cX6_add 19 = .ok (.getfield 15, 3) := by decide +kernel
theorem dX6_add_22 : decode cX6_add 22 = .ok (.iload_n 3, 1) := by decide +kernel
theorem dX6_add_23 : decode cX6_add 23 = .ok (.iload_n 2, 1) := by decide +kernel
theorem dX6_add_24 : decode cX6_add 24 = .ok (.iastore, 1) := by decide +kernel
theorem dX6_add_25 : decode cX6_add 25 = .ok (.aload_n 0, 1) := by decide +kernel
theorem dX6_add_26 : decode cX6_add 26 = .ok (.dup, 1) := by decide +kernel
theorem dX6_add_27 : decode cX6_add 27 = .ok (.getfield 21, 3) := by decide +kernel
theorem dX6_add_30 : decode cX6_add 30 = .ok (.iconst 1, 1) := by decide +kernel
theorem dX6_add_31 : decode cX6_add 31 = .ok (.iadd, 1) := by decide +kernel
theorem dX6_add_32 : decode cX6_add 32 = .ok (.putfield 21, 3) := by decide +kernel
theorem dX6_add_35 : decode cX6_add 35 = .ok (.iload_n 3, 1) := by decide +kernel
theorem dX6_add_36 : decode cX6_add 36 = .ok (.ireturn, 1) := by decide +kernel
theorem dX6_holds_0 : decode cX6_holds 0 = .ok (.aload_n 0, 1) := by decide +kernel
theorem dX6_holds_1 : decode cX6_holds 1 = .ok (.iconst 0, 1) := by decide +kernel
theorem dX6_holds_2 : decode cX6_holds 2 = .ok (.putfield 25, 3) := by decide +kernel
theorem dX6_holds_5 : decode cX6_holds 5 = .ok (.aload_n 0, 1) := by decide +kernel
theorem dX6_holds_6 : decode cX6_holds 6 = .ok (.iconst 0, 1) := by decide +kernel
theorem dX6_holds_7 : decode cX6_holds 7 = .ok (.putfield 28, 3) := by decide +kernel
theorem dX6_holds_10 : decode cX6_holds 10 = .ok (.aload_n 0, 1) := by decide +kernel
theorem dX6_holds_11 : decode cX6_holds 11 = .ok (.iconst 1, 1) := by decide +kernel
theorem dX6_holds_12 : decode cX6_holds 12 = .ok (.putfield 32, 3) := by decide +kernel
theorem dX6_holds_15 : decode cX6_holds 15 = .ok (.iconst 0, 1) := by decide +kernel
theorem dX6_holds_16 : decode cX6_holds 16 = .ok (.istore_n 2, 1) := by decide +kernel
theorem dX6_holds_17 : decode cX6_holds 17 = .ok (.iconst 0, 1) := by decide +kernel
theorem dX6_holds_18 : decode cX6_holds 18 = .ok (.istore_n 3, 1) := by decide +kernel
theorem dX6_holds_19 : decode cX6_holds 19 = .ok (.iload_n 3, 1) := by decide +kernel
theorem dX6_holds_20 : decode cX6_holds 20 = .ok (.aload_n 0, 1) := by decide +kernel
theorem dX6_holds_21 : decode cX6_holds 21 = .ok (.getfield 21, 3) := by decide +kernel
theorem dX6_holds_24 : decode cX6_holds 24 = .ok (.if_icmp .ge 107, 3) := by decide +kernel
theorem dX6_holds_27 : decode cX6_holds 27 = .ok (.iload_n 2, 1) := by decide +kernel
theorem dX6_holds_28 : decode cX6_holds 28 = .ok (.aload_n 0, 1) := by decide +kernel
theorem dX6_holds_29 : decode cX6_holds 29 = .ok (.getfield 21, 3) := by decide +kernel
theorem dX6_holds_32 : decode cX6_holds 32 = .ok (.if_icmp .ge 99, 3) := by decide +kernel
theorem dX6_holds_35 : decode cX6_holds 35 = .ok (.aload_n 0, 1) := by decide +kernel
theorem dX6_holds_36 : decode cX6_holds 36 = .ok (.getfield 28, 3) := by decide +kernel
theorem dX6_holds_39 : decode cX6_holds 39 = .ok (.ifCond .ne 92, 3) := by decide +kernel
theorem dX6_holds_42 : decode cX6_holds 42 = .ok (.aload_n 0, 1) := by decide +kernel
theorem dX6_holds_43 : decode cX6_holds 43 = .ok (.getfield 9, 3) := by decide +kernel
theorem dX6_holds_46 : decode cX6_holds 46 = .ok (.iload_n 2, 1) := by decide +kernel
theorem dX6_holds_47 : decode cX6_holds 47 = .ok (.iaload, 1) := by decide +kernel
theorem dX6_holds_48 : decode cX6_holds 48 = .ok (.istore 4, 2) := by decide +kernel
theorem dX6_holds_50 : decode cX6_holds 50 = .ok (.iload 4, 2) := by decide +kernel
theorem dX6_holds_52 : decode cX6_holds 52 = .ok (.iconst 3, 1) := by decide +kernel
theorem dX6_holds_53 : decode cX6_holds 53 = .ok (.if_icmp .ne 10, 3) := by decide +kernel
theorem dX6_holds_56 : decode cX6_holds 56 = .ok (.aload_n 0, 1) := by decide +kernel
theorem dX6_holds_57 : decode cX6_holds 57 = .ok (.getfield 32, 3) := by decide +kernel
theorem dX6_holds_60 : decode cX6_holds 60 = .ok (.ifCond .eq 16, 3) := by decide +kernel
theorem dX6_holds_63 : decode cX6_holds 63 = .ok (.iload 4, 2) := by decide +kernel
theorem dX6_holds_65 : decode cX6_holds 65 = .ok (.iconst 4, 1) := by decide +kernel
theorem dX6_holds_66 : decode cX6_holds 66 = .ok (.if_icmp .ne 14, 3) := by decide +kernel
theorem dX6_holds_69 : decode cX6_holds 69 = .ok (.aload_n 0, 1) := by decide +kernel
theorem dX6_holds_70 : decode cX6_holds 70 = .ok (.getfield 32, 3) := by decide +kernel
theorem dX6_holds_73 : decode cX6_holds 73 = .ok (.ifCond .eq 7, 3) := by decide +kernel
theorem dX6_holds_76 : decode cX6_holds 76 = .ok (.iconst 1, 1) := by decide +kernel
theorem dX6_holds_77 : decode cX6_holds 77 = .ok (.goto 4, 3) := by decide +kernel
theorem dX6_holds_80 : decode cX6_holds 80 = .ok (.iconst 0, 1) := by decide +kernel
theorem dX6_holds_81 : decode cX6_holds 81 = .ok (.istore 5, 2) := by decide +kernel
theorem dX6_holds_83 : decode cX6_holds 83 = .ok (.iload 5, 2) := by decide +kernel
theorem dX6_holds_85 : decode cX6_holds 85 = .ok (.ifCond .ne 16, 3) := by decide +kernel
theorem dX6_holds_88 : decode cX6_holds 88 = .ok (.aload_n 0, 1) := by decide +kernel
theorem dX6_holds_89 : decode cX6_holds 89 = .ok (.iload 4, 2) := by decide +kernel
theorem dX6_holds_91 : decode cX6_holds 91 = .ok (.aload_n 0, 1) := by decide +kernel
theorem dX6_holds_92 : decode cX6_holds 92 = .ok (.getfield 15, 3) := by decide +kernel
theorem dX6_holds_95 : decode cX6_holds 95 = .ok (.iload_n 2, 1) := by decide +kernel
theorem dX6_holds_96 : decode cX6_holds 96 = .ok (.iaload, 1) := by decide +kernel
theorem dX6_holds_97 : decode cX6_holds 97 = .ok (.aload_n 1, 1) := by decide +kernel
theorem dX6_holds_98 : decode cX6_holds 98 = .ok (.invokevirtual 35, 3) := by decide +kernel
theorem dX6_holds_101 : decode cX6_holds 101 = .ok (.iload 5, 2) := by decide +kernel
theorem dX6_holds_103 : decode cX6_holds 103 = .ok (.ifCond .eq 18, 3) := by decide +kernel
theorem dX6_holds_106 : decode cX6_holds 106 = .ok (.aload_n 0, 1) := by decide +kernel
theorem dX6_holds_107 : decode cX6_holds 107 = .ok (.getfield 15, 3) := by decide +kernel
theorem dX6_holds_110 : decode cX6_holds 110 = .ok (.iload_n 2, 1) := by decide +kernel
theorem dX6_holds_111 : decode cX6_holds 111 = .ok (.iaload, 1) := by decide +kernel
theorem dX6_holds_112 : decode cX6_holds 112 = .ok (.iload_n 2, 1) := by decide +kernel
theorem dX6_holds_113 : decode cX6_holds 113 = .ok (.iconst 1, 1) := by decide +kernel
theorem dX6_holds_114 : decode cX6_holds 114 = .ok (.iadd, 1) := by decide +kernel
theorem dX6_holds_115 : decode cX6_holds 115 = .ok (.invokestatic 39, 3) := by decide +kernel
theorem dX6_holds_118 : decode cX6_holds 118 = .ok (.goto 6, 3) := by decide +kernel
theorem dX6_holds_121 : decode cX6_holds 121 = .ok (.iload_n 2, 1) := by decide +kernel
theorem dX6_holds_122 : decode cX6_holds 122 = .ok (.iconst 1, 1) := by decide +kernel
theorem dX6_holds_123 : decode cX6_holds 123 = .ok (.iadd, 1) := by decide +kernel
theorem dX6_holds_124 : decode cX6_holds 124 = .ok (.istore_n 2, 1) := by decide +kernel
theorem dX6_holds_125 : decode cX6_holds 125 = .ok (.iinc 3 1, 3) := by decide +kernel
theorem dX6_holds_128 : decode cX6_holds 128 = .ok (.goto (-109), 3) := by decide +kernel
theorem dX6_holds_131 : decode cX6_holds 131 = .ok (.aload_n 0, 1) := by decide +kernel
theorem dX6_holds_132 : decode cX6_holds 132 = .ok (.getfield 32, 3) := by decide +kernel
theorem dX6_holds_135 : decode cX6_holds 135 = .ok (.ifCond .eq 14, 3) := by decide +kernel
theorem dX6_holds_138 : decode cX6_holds 138 = .ok (.aload_n 0, 1) := by decide +kernel
theorem dX6_holds_139 : decode cX6_holds 139 = .ok (.getfield 28, 3) := by decide +kernel
theorem dX6_holds_142 : decode cX6_holds 142 = .ok (.ifCond .ne 7, 3) := by decide +kernel
theorem dX6_holds_145 : decode cX6_holds 145 = .ok (.iconst 1, 1) := by decide +kernel
theorem dX6_holds_146 : decode cX6_holds 146 = .ok (.goto 4, 3) := by decide +kernel
theorem dX6_holds_149 : decode cX6_holds 149 = .ok (.iconst 0, 1) := by decide +kernel
theorem dX6_holds_150 : decode cX6_holds 150 = .ok (.ireturn, 1) := by decide +kernel
theorem dX6_obey_0 : decode cX6_obey 0 = .ok (.iload_n 1, 1) := by decide +kernel
theorem dX6_obey_1 : decode cX6_obey 1 = .ok (.ifCond .ne 11, 3) := by decide +kernel
theorem dX6_obey_4 : decode cX6_obey 4 = .ok (.aload_n 0, 1) := by decide +kernel
theorem dX6_obey_5 : decode cX6_obey 5 = .ok (.iload_n 2, 1) := by decide +kernel
theorem dX6_obey_6 : decode cX6_obey 6 = .ok (.invokevirtual 45, 3) := by decide +kernel
theorem dX6_obey_9 : decode cX6_obey 9 = .ok (.goto 158, 3) := by decide +kernel
theorem dX6_obey_12 : decode cX6_obey 12 = .ok (.iload_n 1, 1) := by decide +kernel
theorem dX6_obey_13 : decode cX6_obey 13 = .ok (.iconst 1, 1) := by decide +kernel
theorem dX6_obey_14 : decode cX6_obey 14 = .ok (.if_icmp .ne 15, 3) := by decide +kernel
theorem dX6_obey_17 : decode cX6_obey 17 = .ok (.aload_n 0, 1) := by decide +kernel
theorem dX6_obey_18 : decode cX6_obey 18 = .ok (.aload_n 3, 1) := by decide +kernel
theorem dX6_obey_19 : decode cX6_obey 19 = .ok (.iload_n 2, 1) := by decide +kernel
theorem dX6_obey_20 : decode cX6_obey 20 = .ok (.invokevirtual 49, 3) := by decide +kernel
theorem dX6_obey_23 : decode cX6_obey 23 = .ok (.invokevirtual 45, 3) := by decide +kernel
theorem dX6_obey_26 : decode cX6_obey 26 = .ok (.goto 141, 3) := by decide +kernel
theorem dX6_obey_29 : decode cX6_obey 29 = .ok (.iload_n 1, 1) := by decide +kernel
theorem dX6_obey_30 : decode cX6_obey 30 = .ok (.iconst 2, 1) := by decide +kernel
theorem dX6_obey_31 : decode cX6_obey 31 = .ok (.if_icmp .ne 22, 3) := by decide +kernel
theorem dX6_obey_34 : decode cX6_obey 34 = .ok (.aload_n 0, 1) := by decide +kernel
theorem dX6_obey_35 : decode cX6_obey 35 = .ok (.aload_n 0, 1) := by decide +kernel
theorem dX6_obey_36 : decode cX6_obey 36 = .ok (.getfield 32, 3) := by decide +kernel
theorem dX6_obey_39 : decode cX6_obey 39 = .ok (.ifCond .ne 7, 3) := by decide +kernel
theorem dX6_obey_42 : decode cX6_obey 42 = .ok (.iconst 1, 1) := by decide +kernel
theorem dX6_obey_43 : decode cX6_obey 43 = .ok (.goto 4, 3) := by decide +kernel
theorem dX6_obey_46 : decode cX6_obey 46 = .ok (.iconst 0, 1) := by decide +kernel
theorem dX6_obey_47 : decode cX6_obey 47 = .ok (.putfield 32, 3) := by decide +kernel
theorem dX6_obey_50 : decode cX6_obey 50 = .ok (.goto 117, 3) := by decide +kernel
theorem dX6_obey_53 : decode cX6_obey 53 = .ok (.iload_n 1, 1) := by decide +kernel
theorem dX6_obey_54 : decode cX6_obey 54 = .ok (.iconst 3, 1) := by decide +kernel
theorem dX6_obey_55 : decode cX6_obey 55 = .ok (.if_icmp .eq 112, 3) := by decide +kernel
theorem dX6_obey_58 : decode cX6_obey 58 = .ok (.iload_n 1, 1) := by decide +kernel
theorem dX6_obey_59 : decode cX6_obey 59 = .ok (.iconst 4, 1) := by decide +kernel
theorem dX6_obey_60 : decode cX6_obey 60 = .ok (.if_icmp .eq 107, 3) := by decide +kernel
theorem dX6_obey_63 : decode cX6_obey 63 = .ok (.aload_n 0, 1) := by decide +kernel
theorem dX6_obey_64 : decode cX6_obey 64 = .ok (.invokevirtual 55, 3) := by decide +kernel
theorem dX6_obey_67 : decode cX6_obey 67 = .ok (.istore 4, 2) := by decide +kernel
theorem dX6_obey_69 : decode cX6_obey 69 = .ok (.aload_n 0, 1) := by decide +kernel
theorem dX6_obey_70 : decode cX6_obey 70 = .ok (.invokevirtual 55, 3) := by decide +kernel
theorem dX6_obey_73 : decode cX6_obey 73 = .ok (.istore 5, 2) := by decide +kernel
theorem dX6_obey_75 : decode cX6_obey 75 = .ok (.iload_n 1, 1) := by decide +kernel
theorem dX6_obey_76 : decode cX6_obey 76 = .ok (.bipush 60, 2) := by decide +kernel
theorem dX6_obey_78 : decode cX6_obey 78 = .ok (.if_icmp .eq 15, 3) := by decide +kernel
theorem dX6_obey_81 : decode cX6_obey 81 = .ok (.iload_n 1, 1) := by decide +kernel
theorem dX6_obey_82 : decode cX6_obey 82 = .ok (.bipush 62, 2) := by decide +kernel
theorem dX6_obey_84 : decode cX6_obey 84 = .ok (.if_icmp .eq 9, 3) := by decide +kernel
theorem dX6_obey_87 : decode cX6_obey 87 = .ok (.iload_n 1, 1) := by decide +kernel
theorem dX6_obey_88 : decode cX6_obey 88 = .ok (.bipush 61, 2) := by decide +kernel
theorem dX6_obey_90 : decode cX6_obey 90 = .ok (.if_icmp .ne 64, 3) := by decide +kernel
theorem dX6_obey_93 : decode cX6_obey 93 = .ok (.aload_n 0, 1) := by decide +kernel
theorem dX6_obey_94 : decode cX6_obey 94 = .ok (.iload_n 1, 1) := by decide +kernel
theorem dX6_obey_95 : decode cX6_obey 95 = .ok (.bipush 60, 2) := by decide +kernel
theorem dX6_obey_97 : decode cX6_obey 97 = .ok (.if_icmp .ne 18, 3) := by decide +kernel
theorem dX6_obey_100 : decode cX6_obey 100 = .ok (.iload 5, 2) := by decide +kernel
theorem dX6_obey_102 : decode cX6_obey 102 = .ok (.iload 4, 2) := by decide +kernel
theorem dX6_obey_104 : decode cX6_obey 104 = .ok (.if_icmp .ge 7, 3) := by decide +kernel
theorem dX6_obey_107 : decode cX6_obey 107 = .ok (.iconst 1, 1) := by decide +kernel
theorem dX6_obey_108 : decode cX6_obey 108 = .ok (.goto 40, 3) := by decide +kernel
theorem dX6_obey_111 : decode cX6_obey 111 = .ok (.iconst 0, 1) := by decide +kernel
theorem dX6_obey_112 : decode cX6_obey 112 = .ok (.goto 36, 3) := by decide +kernel
theorem dX6_obey_115 : decode cX6_obey 115 = .ok (.iload_n 1, 1) := by decide +kernel
theorem dX6_obey_116 : decode cX6_obey 116 = .ok (.bipush 62, 2) := by decide +kernel
theorem dX6_obey_118 : decode cX6_obey 118 = .ok (.if_icmp .ne 18, 3) := by decide +kernel
theorem dX6_obey_121 : decode cX6_obey 121 = .ok (.iload 5, 2) := by decide +kernel
theorem dX6_obey_123 : decode cX6_obey 123 = .ok (.iload 4, 2) := by decide +kernel
theorem dX6_obey_125 : decode cX6_obey 125 = .ok (.if_icmp .le 7, 3) := by decide +kernel
theorem dX6_obey_128 : decode cX6_obey 128 = .ok (.iconst 1, 1) := by decide +kernel
theorem dX6_obey_129 : decode cX6_obey 129 = .ok (.goto 19, 3) := by decide +kernel
theorem dX6_obey_132 : decode cX6_obey 132 = .ok (.iconst 0, 1) := by decide +kernel
theorem dX6_obey_133 : decode cX6_obey 133 = .ok (.goto 15, 3) := by decide +kernel
theorem dX6_obey_136 : decode cX6_obey 136 = .ok (.iload 5, 2) := by decide +kernel
theorem dX6_obey_138 : decode cX6_obey 138 = .ok (.iload 4, 2) := by decide +kernel
theorem dX6_obey_140 : decode cX6_obey 140 = .ok (.if_icmp .ne 7, 3) := by decide +kernel
theorem dX6_obey_143 : decode cX6_obey 143 = .ok (.iconst 1, 1) := by decide +kernel
theorem dX6_obey_144 : decode cX6_obey 144 = .ok (.goto 4, 3) := by decide +kernel
theorem dX6_obey_147 : decode cX6_obey 147 = .ok (.iconst 0, 1) := by decide +kernel
theorem dX6_obey_148 : decode cX6_obey 148 = .ok (.putfield 32, 3) := by decide +kernel
theorem dX6_obey_151 : decode cX6_obey 151 = .ok (.goto 16, 3) := by decide +kernel
theorem dX6_obey_154 : decode cX6_obey 154 = .ok (.aload_n 0, 1) := by decide +kernel
theorem dX6_obey_155 : decode cX6_obey 155 = .ok (.aload_n 0, 1) := by decide +kernel
theorem dX6_obey_156 : decode cX6_obey 156 = .ok (.iload_n 1, 1) := by decide +kernel
theorem dX6_obey_157 : decode cX6_obey 157 = .ok (.iload 5, 2) := by decide +kernel
theorem dX6_obey_159 : decode cX6_obey 159 = .ok (.iload 4, 2) := by decide +kernel
theorem dX6_obey_161 : decode cX6_obey 161 = .ok (.invokevirtual 59, 3) := by decide +kernel
theorem dX6_obey_164 : decode cX6_obey 164 = .ok (.invokevirtual 45, 3) := by decide +kernel
theorem dX6_obey_167 : decode cX6_obey 167 = .ok (.return_, 1) := by decide +kernel
theorem dX6_reckon_0 : decode cX6_reckon 0 = .ok (.iload_n 1, 1) := by decide +kernel
theorem dX6_reckon_1 : decode cX6_reckon 1 = .ok (.tableswitch 43 42 45 #[39, 31, 43, 35], 31) := by decide +kernel
theorem dX6_reckon_32 : decode cX6_reckon 32 = .ok (.iload_n 2, 1) := by decide +kernel
theorem dX6_reckon_33 : decode cX6_reckon 33 = .ok (.iload_n 3, 1) := by decide +kernel
theorem dX6_reckon_34 : decode cX6_reckon 34 = .ok (.iadd, 1) := by decide +kernel
theorem dX6_reckon_35 : decode cX6_reckon 35 = .ok (.ireturn, 1) := by decide +kernel
theorem dX6_reckon_36 : decode cX6_reckon 36 = .ok (.iload_n 2, 1) := by decide +kernel
theorem dX6_reckon_37 : decode cX6_reckon 37 = .ok (.iload_n 3, 1) := by decide +kernel
theorem dX6_reckon_38 : decode cX6_reckon 38 = .ok (.isub, 1) := by decide +kernel
theorem dX6_reckon_39 : decode cX6_reckon 39 = .ok (.ireturn, 1) := by decide +kernel
theorem dX6_reckon_40 : decode cX6_reckon 40 = .ok (.iload_n 2, 1) := by decide +kernel
theorem dX6_reckon_41 : decode cX6_reckon 41 = .ok (.iload_n 3, 1) := by decide +kernel
theorem dX6_reckon_42 : decode cX6_reckon 42 = .ok (.imul, 1) := by decide +kernel
theorem dX6_reckon_43 : decode cX6_reckon 43 = .ok (.ireturn, 1) := by decide +kernel
theorem dX6_reckon_44 : decode cX6_reckon 44 = .ok (.iload_n 3, 1) := by decide +kernel
theorem dX6_reckon_45 : decode cX6_reckon 45 = .ok (.ifCond .ne 10, 3) := by decide +kernel
theorem dX6_reckon_48 : decode cX6_reckon 48 = .ok (.aload_n 0, 1) := by decide +kernel
theorem dX6_reckon_49 : decode cX6_reckon 49 = .ok (.iconst 1, 1) := by decide +kernel
theorem dX6_reckon_50 : decode cX6_reckon 50 = .ok (.putfield 28, 3) := by decide +kernel
theorem dX6_reckon_53 : decode cX6_reckon 53 = .ok (.iconst 0, 1) := by decide +kernel
theorem dX6_reckon_54 : decode cX6_reckon 54 = .ok (.ireturn, 1) := by decide +kernel
theorem dX6_reckon_55 : decode cX6_reckon 55 = .ok (.iload_n 1, 1) := by decide +kernel
theorem dX6_reckon_56 : decode cX6_reckon 56 = .ok (.bipush 47, 2) := by decide +kernel
theorem dX6_reckon_58 : decode cX6_reckon 58 = .ok (.if_icmp .ne 9, 3) := by decide +kernel
theorem dX6_reckon_61 : decode cX6_reckon 61 = .ok (.iload_n 2, 1) := by decide +kernel
theorem dX6_reckon_62 : decode cX6_reckon 62 = .ok (.iload_n 3, 1) := by decide +kernel
theorem dX6_reckon_63 : decode cX6_reckon 63 = .ok (.idiv, 1) := by decide +kernel
theorem dX6_reckon_64 : decode cX6_reckon 64 = .ok (.goto 6, 3) := by decide +kernel
theorem dX6_reckon_67 : decode cX6_reckon 67 = .ok (.iload_n 2, 1) := by decide +kernel
theorem dX6_reckon_68 : decode cX6_reckon 68 = .ok (.iload_n 3, 1) := by decide +kernel
theorem dX6_reckon_69 : decode cX6_reckon 69 = .ok (.irem, 1) := by decide +kernel
theorem dX6_reckon_70 : decode cX6_reckon 70 = .ok (.ireturn, 1) := by decide +kernel
theorem dX6_push_0 : decode cX6_push 0 = .ok (.aload_n 0, 1) := by decide +kernel
theorem dX6_push_1 : decode cX6_push 1 = .ok (.getfield 25, 3) := by decide +kernel
theorem dX6_push_4 : decode cX6_push 4 = .ok (.aload_n 0, 1) := by decide +kernel
theorem dX6_push_5 : decode cX6_push 5 = .ok (.getfield 18, 3) := by decide +kernel
theorem dX6_push_8 : decode cX6_push 8 = .ok (.arraylength, 1) := by decide +kernel
theorem dX6_push_9 : decode cX6_push 9 = .ok (.if_icmp .ge 23, 3) := by decide +kernel
theorem dX6_push_12 : decode cX6_push 12 = .ok (.aload_n 0, 1) := by decide +kernel
theorem dX6_push_13 : decode cX6_push 13 = .ok (.getfield 18, 3) := by decide +kernel
theorem dX6_push_16 : decode cX6_push 16 = .ok (.aload_n 0, 1) := by decide +kernel
theorem dX6_push_17 : decode cX6_push 17 = .ok (.getfield 25, 3) := by decide +kernel
theorem dX6_push_20 : decode cX6_push 20 = .ok (.iload_n 1, 1) := by decide +kernel
theorem dX6_push_21 : decode cX6_push 21 = .ok (.iastore, 1) := by decide +kernel
theorem dX6_push_22 : decode cX6_push 22 = .ok (.aload_n 0, 1) := by decide +kernel
theorem dX6_push_23 : decode cX6_push 23 = .ok (.dup, 1) := by decide +kernel
theorem dX6_push_24 : decode cX6_push 24 = .ok (.getfield 25, 3) := by decide +kernel
theorem dX6_push_27 : decode cX6_push 27 = .ok (.iconst 1, 1) := by decide +kernel
theorem dX6_push_28 : decode cX6_push 28 = .ok (.iadd, 1) := by decide +kernel
theorem dX6_push_29 : decode cX6_push 29 = .ok (.putfield 25, 3) := by decide +kernel
theorem dX6_push_32 : decode cX6_push 32 = .ok (.return_, 1) := by decide +kernel
theorem dX6_pop_0 : decode cX6_pop 0 = .ok (.aload_n 0, 1) := by decide +kernel
theorem dX6_pop_1 : decode cX6_pop 1 = .ok (.getfield 25, 3) := by decide +kernel
theorem dX6_pop_4 : decode cX6_pop 4 = .ok (.ifCond .gt 5, 3) := by decide +kernel
theorem dX6_pop_7 : decode cX6_pop 7 = .ok (.iconst 0, 1) := by decide +kernel
theorem dX6_pop_8 : decode cX6_pop 8 = .ok (.ireturn, 1) := by decide +kernel
theorem dX6_pop_9 : decode cX6_pop 9 = .ok (.aload_n 0, 1) := by decide +kernel
