theorem dX12_isVat_11 : decode cX12_isVat 11 = .ok (.goto 4, 3) := by decide +kernel
theorem dX12_isVat_14 : decode cX12_isVat 14 = .ok (.iconst 0, 1) := by decide +kernel
theorem dX12_isVat_15 : decode cX12_isVat 15 = .ok (.ireturn, 1) := by decide +kernel
theorem dX12_vat_0 : decode cX12_vat 0 = .ok (.iload_n 1, 1) := by decide +kernel
theorem dX12_vat_1 : decode cX12_vat 1 = .ok (.invokestatic 133, 3) := by decide +kernel
theorem dX12_vat_4 : decode cX12_vat 4 = .ok (.ifCond .eq 32, 3) := by decide +kernel
theorem dX12_vat_7 : decode cX12_vat 7 = .ok (.iload_n 2, 1) := by decide +kernel
theorem dX12_vat_8 : decode cX12_vat 8 = .ok (.iconst 0, 1) := by decide +kernel
theorem dX12_vat_9 : decode cX12_vat 9 = .ok (.iconst 3, 1) := by decide +kernel
theorem dX12_vat_10 : decode cX12_vat 10 = .ok (.invokestatic 137, 3) := by decide +kernel
theorem dX12_vat_13 : decode cX12_vat 13 = .ok (.ifCond .eq 23, 3) := by decide +kernel
theorem dX12_vat_16 : decode cX12_vat 16 = .ok (.iload_n 3, 1) := by decide +kernel
theorem dX12_vat_17 : decode cX12_vat 17 = .ok (.iconst 0, 1) := by decide +kernel
theorem dX12_vat_18 : decode cX12_vat 18 = .ok (.bipush 99, 2) := by decide +kernel
theorem dX12_vat_20 : decode cX12_vat 20 = .ok (.invokestatic 137, 3) := by decide +kernel
theorem dX12_vat_23 : decode cX12_vat 23 = .ok (.ifCond .eq 13, 3) := by decide +kernel
theorem dX12_vat_26 : decode cX12_vat 26 = .ok (.iload 4, 2) := by decide +kernel
theorem dX12_vat_28 : decode cX12_vat 28 = .ok (.iconst 0, 1) := by decide +kernel
theorem dX12_vat_29 : decode cX12_vat 29 = .ok (.iload_n 3, 1) := by decide +kernel
theorem dX12_vat_30 : decode cX12_vat 30 = .ok (.invokestatic 137, 3) := by decide +kernel
theorem dX12_vat_33 : decode cX12_vat 33 = .ok (.ifCond .ne 5, 3) := by decide +kernel
theorem dX12_vat_36 : decode cX12_vat 36 = .ok (.iconst 0, 1) := by decide +kernel
theorem dX12_vat_37 : decode cX12_vat 37 = .ok (.ireturn, 1) := by decide +kernel
theorem dX12_vat_38 : decode cX12_vat 38 = .ok (.aload_n 0, 1) := by decide +kernel
theorem dX12_vat_39 : decode cX12_vat 39 = .ok (.getfield 7, 3) := by decide +kernel
theorem dX12_vat_42 : decode cX12_vat 42 = .ok (.iload_n 1, 1) := by decide +kernel
theorem dX12_vat_43 : decode cX12_vat 43 = .ok (.iload_n 2, 1) := by decide +kernel
theorem dX12_vat_44 : decode cX12_vat 44 = .ok (.iastore, 1) := by decide +kernel
theorem dX12_vat_45 : decode cX12_vat 45 = .ok (.aload_n 0, 1) := by decide +kernel
theorem dX12_vat_46 : decode cX12_vat 46 = .ok (.getfield 13, 3) := by decide +kernel
theorem dX12_vat_49 : decode cX12_vat 49 = .ok (.iload_n 1, 1) := by decide +kernel
theorem dX12_vat_50 : decode cX12_vat 50 = .ok (.iload_n 3, 1) := by decide +kernel
theorem dX12_vat_51 : decode cX12_vat 51 = .ok (.iastore, 1) := by decide +kernel
theorem dX12_vat_52 : decode cX12_vat 52 = .ok (.aload_n 0, 1) := by decide +kernel
theorem dX12_vat_53 : decode cX12_vat 53 = .ok (.getfield 16, 3) := by decide +kernel
theorem dX12_vat_56 : decode cX12_vat 56 = .ok (.iload_n 1, 1) := by decide +kernel
theorem dX12_vat_57 : decode cX12_vat 57 = .ok (.iload 4, 2) := by decide +kernel
theorem dX12_vat_59 : decode cX12_vat 59 = .ok (.iastore, 1) := by decide +kernel
theorem dX12_vat_60 : decode cX12_vat 60 = .ok (.iconst 1, 1) := by decide +kernel
theorem dX12_vat_61 : decode cX12_vat 61 = .ok (.ireturn, 1) := by decide +kernel
theorem dX12_types_0 : decode cX12_types 0 = .ok (.iconst 3, 1) := by decide +kernel
theorem dX12_types_1 : decode cX12_types 1 = .ok (.istore_n 2, 1) := by decide +kernel
theorem dX12_types_2 : decode cX12_types 2 = .ok (.iload_n 2, 1) := by decide +kernel
theorem dX12_types_3 : decode cX12_types 3 = .ok (.ifCond .lt 35, 3) := by decide +kernel
theorem dX12_types_6 : decode cX12_types 6 = .ok (.aload_n 0, 1) := by decide +kernel
theorem dX12_types_7 : decode cX12_types 7 = .ok (.getfield 19, 3) := by decide +kernel
theorem dX12_types_10 : decode cX12_types 10 = .ok (.aload_n 0, 1) := by decide +kernel
theorem dX12_types_11 : decode cX12_types 11 = .ok (.getfield 141, 3) := by decide +kernel
theorem dX12_types_14 : decode cX12_types 14 = .ok (.iload_n 1, 1) := by decide +kernel
theorem dX12_types_15 : decode cX12_types 15 = .ok (.bipush 8, 2) := by decide +kernel
theorem dX12_types_17 : decode cX12_types 17 = .ok (.iload_n 2, 1) := by decide +kernel
theorem dX12_types_18 : decode cX12_types 18 = .ok (.imul, 1) := by decide +kernel
theorem dX12_types_19 : decode cX12_types 19 = .ok (.ishr, 1) := by decide +kernel
theorem dX12_types_20 : decode cX12_types 20 = .ok (.i2b, 1) := by decide +kernel
theorem dX12_types_21 : decode cX12_types 21 = .ok (.bastore, 1) := by decide +kernel
theorem dX12_types_22 : decode cX12_types 22 = .ok (.aload_n 0, 1) := by decide +kernel
theorem dX12_types_23 : decode cX12_types 23 = .ok (.aload_n 0, 1) := by decide +kernel
theorem dX12_types_24 : decode cX12_types 24 = .ok (.getfield 141, 3) := by decide +kernel
theorem dX12_types_27 : decode cX12_types 27 = .ok (.iconst 1, 1) := by decide +kernel
theorem dX12_types_28 : decode cX12_types 28 = .ok (.iadd, 1) := by decide +kernel
theorem dX12_types_29 : decode cX12_types 29 = .ok (.putfield 141, 3) := by decide +kernel
theorem dX12_types_32 : decode cX12_types 32 = .ok (.iinc 2 (-1), 3) := by decide +kernel
theorem dX12_types_35 : decode cX12_types 35 = .ok (.goto (-33), 3) := by decide +kernel
theorem dX12_types_38 : decode cX12_types 38 = .ok (.return_, 1) := by decide +kernel
theorem dX12_feed_0 : decode cX12_feed 0 = .ok (.aload_n 0, 1) := by decide +kernel
theorem dX12_feed_1 : decode cX12_feed 1 = .ok (.getfield 141, 3) := by decide +kernel
theorem dX12_feed_4 : decode cX12_feed 4 = .ok (.bipush 20, 2) := by decide +kernel
theorem dX12_feed_6 : decode cX12_feed 6 = .ok (.iadd, 1) := by decide +kernel
theorem dX12_feed_7 : decode cX12_feed 7 = .ok (.sipush 160, 3) := by decide +kernel
theorem dX12_feed_10 : decode cX12_feed 10 = .ok (.if_icmp .le 5, 3) := by decide +kernel
theorem dX12_feed_13 : decode cX12_feed 13 = .ok (.iconst (-1), 1) := by decide +kernel
theorem dX12_feed_14 : decode cX12_feed 14 = .ok (.ireturn, 1) := by decide +kernel
theorem dX12_feed_15 : decode cX12_feed 15 = .ok (.aload_n 0, 1) := by decide +kernel
theorem dX12_feed_16 : decode cX12_feed 16 = .ok (.iload_n 1, 1) := by decide +kernel
theorem dX12_feed_17 : decode cX12_feed 17 = .ok (.invokevirtual 144, 3) := by decide +kernel
theorem dX12_feed_20 : decode cX12_feed 20 = .ok (.aload_n 0, 1) := by decide +kernel
theorem dX12_feed_21 : decode cX12_feed 21 = .ok (.iload_n 2, 1) := by decide +kernel
theorem dX12_feed_22 : decode cX12_feed 22 = .ok (.invokevirtual 144, 3) := by decide +kernel
theorem dX12_feed_25 : decode cX12_feed 25 = .ok (.aload_n 0, 1) := by decide +kernel
theorem dX12_feed_26 : decode cX12_feed 26 = .ok (.iload_n 3, 1) := by decide +kernel
theorem dX12_feed_27 : decode cX12_feed 27 = .ok (.invokevirtual 144, 3) := by decide +kernel
theorem dX12_feed_30 : decode cX12_feed 30 = .ok (.aload_n 0, 1) := by decide +kernel
theorem dX12_feed_31 : decode cX12_feed 31 = .ok (.iload 4, 2) := by decide +kernel
theorem dX12_feed_33 : decode cX12_feed 33 = .ok (.invokevirtual 144, 3) := by decide +kernel
theorem dX12_feed_36 : decode cX12_feed 36 = .ok (.aload_n 0, 1) := by decide +kernel
theorem dX12_feed_37 : decode cX12_feed 37 = .ok (.iload 5, 2) := by decide +kernel
theorem dX12_feed_39 : decode cX12_feed 39 = .ok (.invokevirtual 144, 3) := by decide +kernel
theorem dX12_feed_42 : decode cX12_feed 42 = .ok (.aload_n 0, 1) := by decide +kernel
theorem dX12_feed_43 : decode cX12_feed 43 = .ok (.getfield 141, 3) := by decide +kernel
theorem dX12_feed_46 : decode cX12_feed 46 = .ok (.ireturn, 1) := by decide +kernel
theorem dX12_here_0 : decode cX12_here 0 = .ok (.aload_n 0, 1) := by decide +kernel
theorem dX12_here_1 : decode cX12_here 1 = .ok (.getfield 148, 3) := by decide +kernel
theorem dX12_here_4 : decode cX12_here 4 = .ok (.aload_n 0, 1) := by decide +kernel
theorem dX12_here_5 : decode cX12_here 5 = .ok (.getfield 151, 3) := by decide +kernel
theorem dX12_here_8 : decode cX12_here 8 = .ok (.if_icmp .ge 19, 3) := by decide +kernel
theorem dX12_here_11 : decode cX12_here 11 = .ok (.aload_n 0, 1) := by decide +kernel
theorem dX12_here_12 : decode cX12_here 12 = .ok (.getfield 19, 3) := by decide +kernel
theorem dX12_here_15 : decode cX12_here 15 = .ok (.aload_n 0, 1) := by decide +kernel
theorem dX12_here_16 : decode cX12_here 16 = .ok (.getfield 148, 3) := by decide +kernel
theorem dX12_here_19 : decode cX12_here 19 = .ok (.baload, 1) := by decide +kernel
theorem dX12_here_20 : decode cX12_here 20 = .ok (.sipush 255, 3) := by decide +kernel
theorem dX12_here_23 : decode cX12_here 23 = .ok (.iand, 1) := by decide +kernel
theorem dX12_here_24 : decode cX12_here 24 = .ok (.goto 4, 3) := by decide +kernel
theorem dX12_here_27 : decode cX12_here 27 = .ok (.iconst (-1), 1) := by decide +kernel
theorem dX12_here_28 : decode cX12_here 28 = .ok (.ireturn, 1) := by decide +kernel
theorem dX12_isDigit_0 : decode cX12_isDigit 0 = .ok (.aload_n 0, 1) := by decide +kernel
theorem dX12_isDigit_1 : decode cX12_isDigit 1 = .ok (.invokevirtual 154, 3) := by decide +kernel
theorem dX12_isDigit_4 : decode cX12_isDigit 4 = .ok (.bipush 48, 2) := by decide +kernel
theorem dX12_isDigit_6 : decode cX12_isDigit 6 = .ok (.if_icmp .lt 16, 3) := by decide +kernel
theorem dX12_isDigit_9 : decode cX12_isDigit 9 = .ok (.aload_n 0, 1) := by decide +kernel
theorem dX12_isDigit_10 : decode cX12_isDigit 10 = .ok (.invokevirtual 154, 3) := by decide +kernel
theorem dX12_isDigit_13 : decode cX12_isDigit 13 = .ok (.bipush 57, 2) := by decide +kernel
theorem dX12_isDigit_15 : decode cX12_isDigit 15 = .ok (.if_icmp .gt 7, 3) := by decide +kernel
theorem dX12_isDigit_18 : decode cX12_isDigit 18 = .ok (.iconst 1, 1) := by decide +kernel
theorem dX12_isDigit_19 : decode cX12_isDigit 19 = .ok (.goto 4, 3) := by decide +kernel
theorem dX12_isDigit_22 : decode cX12_isDigit 22 = .ok (.iconst 0, 1) := by decide +kernel
theorem dX12_isDigit_23 : decode cX12_isDigit 23 = .ok (.ireturn, 1) := by decide +kernel
theorem dX12_wrongAt_0 : decode cX12_wrongAt 0 = .ok (.aload_n 0, 1) := by decide +kernel
theorem dX12_wrongAt_1 : decode cX12_wrongAt 1 = .ok (.sipush (-1000), 3) := by decide +kernel
theorem dX12_wrongAt_4 : decode cX12_wrongAt 4 = .ok (.iload_n 1, 1) := by decide +kernel
theorem dX12_wrongAt_5 : decode cX12_wrongAt 5 = .ok (.imul, 1) := by decide +kernel
theorem dX12_wrongAt_6 : decode cX12_wrongAt 6 = .ok (.iload_n 2, 1) := by decide +kernel
theorem dX12_wrongAt_7 : decode cX12_wrongAt 7 = .ok (.isub, 1) := by decide +kernel
theorem dX12_wrongAt_8 : decode cX12_wrongAt 8 = .ok (.putfield 158, 3) := by decide +kernel
theorem dX12_wrongAt_11 : decode cX12_wrongAt 11 = .ok (.iconst 0, 1) := by decide +kernel
theorem dX12_wrongAt_12 : decode cX12_wrongAt 12 = .ok (.ireturn, 1) := by decide +kernel
theorem dX12_readsNumber_0 : decode cX12_readsNumber 0 = .ok (.aload_n 0, 1) := by decide +kernel
theorem dX12_readsNumber_1 : decode cX12_readsNumber 1 = .ok (.getfield 148, 3) := by decide +kernel
theorem dX12_readsNumber_4 : decode cX12_readsNumber 4 = .ok (.istore_n 1, 1) := by decide +kernel
theorem dX12_readsNumber_5 : decode cX12_readsNumber 5 = .ok (.aload_n 0, 1) := by decide +kernel
theorem dX12_readsNumber_6 : decode cX12_readsNumber 6 = .ok (.iconst 0, 1) := by decide +kernel
theorem dX12_readsNumber_7 : decode cX12_readsNumber 7 = .ok (.putfield 165, 3) := by decide +kernel
theorem dX12_readsNumber_10 : decode cX12_readsNumber 10 = .ok (.aload_n 0, 1) := by decide +kernel
theorem dX12_readsNumber_11 : decode cX12_readsNumber 11 = .ok (.invokevirtual 168, 3) := by decide +kernel
theorem dX12_readsNumber_14 : decode cX12_readsNumber 14 = .ok (.ifCond .eq 55, 3) := by decide +kernel
theorem dX12_readsNumber_17 : decode cX12_readsNumber 17 = .ok (.aload_n 0, 1) := by decide +kernel
theorem dX12_readsNumber_18 : decode cX12_readsNumber 18 = .ok (.getfield 148, 3) := by decide +kernel
theorem dX12_readsNumber_21 : decode cX12_readsNumber 21 = .ok (.iload_n 1, 1) := by decide +kernel
theorem dX12_readsNumber_22 : decode cX12_readsNumber 22 = .ok (.iconst 5, 1) := by decide +kernel
theorem dX12_readsNumber_23 : decode cX12_readsNumber 23 = .ok (.iadd, 1) := by decide +kernel
theorem dX12_readsNumber_24 : decode cX12_readsNumber 24 = .ok (.if_icmp .ne 13, 3) := by decide +kernel
theorem dX12_readsNumber_27 : decode cX12_readsNumber 27 = .ok (.aload_n 0, 1) := by decide +kernel
theorem dX12_readsNumber_28 : decode cX12_readsNumber 28 = .ok (.iconst 2, 1) := by decide +kernel
theorem dX12_readsNumber_29 : decode cX12_readsNumber 29 = .ok (.aload_n 0, 1) := by decide +kernel
theorem dX12_readsNumber_30 : decode cX12_readsNumber 30 = .ok (.getfield 148, 3) := by decide +kernel
theorem dX12_readsNumber_33 : decode cX12_readsNumber 33 = .ok (.invokevirtual 161, 3) := by decide +kernel
theorem dX12_readsNumber_36 : decode cX12_readsNumber 36 = .ok (.ireturn, 1) := by decide +kernel
theorem dX12_readsNumber_37 : decode cX12_readsNumber 37 = .ok (.aload_n 0, 1) := by decide +kernel
theorem dX12_readsNumber_38 : decode cX12_readsNumber 38 = .ok (.bipush 10, 2) := by decide +kernel
theorem dX12_readsNumber_40 : decode cX12_readsNumber 40 = .ok (.aload_n 0, 1) := by decide +kernel
theorem dX12_readsNumber_41 : decode cX12_readsNumber 41 = .ok (.getfield 165, 3) := by decide +kernel
theorem dX12_readsNumber_44 : decode cX12_readsNumber 44 = .ok (.imul, 1) := by decide +kernel
theorem dX12_readsNumber_45 : decode cX12_readsNumber 45 = .ok (.aload_n 0, 1) := by decide +kernel
theorem dX12_readsNumber_46 : decode cX12_readsNumber 46 = .ok (.invokevirtual 154, 3) := by decide +kernel
theorem dX12_readsNumber_49 : decode cX12_readsNumber 49 = .ok (.iadd, 1) := by decide +kernel
theorem dX12_readsNumber_50 : decode cX12_readsNumber 50 = .ok (.bipush 48, 2) := by decide +kernel
theorem dX12_readsNumber_52 : decode cX12_readsNumber 52 = .ok (.isub, 1) := by decide +kernel
theorem dX12_readsNumber_53 : decode cX12_readsNumber 53 = .ok (.putfield 165, 3) := by decide +kernel
theorem dX12_readsNumber_56 : decode cX12_readsNumber 56 = .ok (.aload_n 0, 1) := by decide +kernel
theorem dX12_readsNumber_57 : decode cX12_readsNumber 57 = .ok (.aload_n 0, 1) := by decide +kernel
theorem dX12_readsNumber_58 : decode cX12_readsNumber 58 = .ok (.getfield 148, 3) := by decide +kernel
theorem dX12_readsNumber_61 : decode cX12_readsNumber 61 = .ok (.iconst 1, 1) := by decide +kernel
theorem dX12_readsNumber_62 : decode cX12_readsNumber 62 = .ok (.iadd, 1) := by decide +kernel
theorem dX12_readsNumber_63 : decode cX12_readsNumber 63 = .ok (.putfield 148, 3) := by decide +kernel
theorem dX12_readsNumber_66 : decode cX12_readsNumber 66 = .ok (.goto (-56), 3) := by decide +kernel
theorem dX12_readsNumber_69 : decode cX12_readsNumber 69 = .ok (.iconst 1, 1) := by decide +kernel
theorem dX12_readsNumber_70 : decode cX12_readsNumber 70 = .ok (.ireturn, 1) := by decide +kernel
theorem dX12_notes_0 : decode cX12_notes 0 = .ok (.aload_n 0, 1) := by decide +kernel
theorem dX12_notes_1 : decode cX12_notes 1 = .ok (.getfield 23, 3) := by decide +kernel
theorem dX12_notes_4 : decode cX12_notes 4 = .ok (.aload_n 0, 1) := by decide +kernel
theorem dX12_notes_5 : decode cX12_notes 5 = .ok (.getfield 172, 3) := by decide +kernel
theorem dX12_notes_8 : decode cX12_notes 8 = .ok (.ldc 175, 2) := by decide +kernel
theorem dX12_notes_10 : decode cX12_notes 10 = .ok (.iload_n 1, 1) := by decide +kernel
theorem dX12_notes_11 : decode cX12_notes 11 = .ok (.imul, 1) := by decide +kernel
theorem dX12_notes_12 : decode cX12_notes 12 = .ok (.iload_n 2, 1) := by decide +kernel
theorem dX12_notes_13 : decode cX12_notes 13 = .ok (.iadd, 1) := by decide +kernel
theorem dX12_notes_14 : decode cX12_notes 14 = .ok (.iastore, 1) := by decide +kernel
theorem dX12_notes_15 : decode cX12_notes 15 = .ok (.aload_n 0, 1) := by decide +kernel
theorem dX12_notes_16 : decode cX12_notes 16 = .ok (.aload_n 0, 1) := by decide +kernel
theorem dX12_notes_17 : decode cX12_notes 17 = .ok (.getfield 172, 3) := by decide +kernel
theorem dX12_notes_20 : decode cX12_notes 20 = .ok (.iconst 1, 1) := by decide +kernel
theorem dX12_notes_21 : decode cX12_notes 21 = .ok (.iadd, 1) := by decide +kernel
theorem dX12_notes_22 : decode cX12_notes 22 = .ok (.putfield 172, 3) := by decide +kernel
theorem dX12_notes_25 : decode cX12_notes 25 = .ok (.return_, 1) := by decide +kernel
theorem dX12_opens_0 : decode cX12_opens 0 = .ok (.aload_n 0, 1) := by decide +kernel
theorem dX12_opens_1 : decode cX12_opens 1 = .ok (.getfield 176, 3) := by decide +kernel
theorem dX12_opens_4 : decode cX12_opens 4 = .ok (.bipush 6, 2) := by decide +kernel
theorem dX12_opens_6 : decode cX12_opens 6 = .ok (.if_icmp .ne 13, 3) := by decide +kernel
theorem dX12_opens_9 : decode cX12_opens 9 = .ok (.aload_n 0, 1) := by decide +kernel
theorem dX12_opens_10 : decode cX12_opens 10 = .ok (.iconst 5, 1) := by decide +kernel
theorem dX12_opens_11 : decode cX12_opens 11 = .ok (.aload_n 0, 1) := by decide +kernel
theorem dX12_opens_12 : decode cX12_opens 12 = .ok (.getfield 148, 3) := by decide +kernel
theorem dX12_opens_15 : decode cX12_opens 15 = .ok (.invokevirtual 161, 3) := by decide +kernel
theorem dX12_opens_18 : decode cX12_opens 18 = .ok (.ireturn, 1) := by decide +kernel
theorem dX12_opens_19 : decode cX12_opens 19 = .ok (.aload_n 0, 1) := by decide +kernel
theorem dX12_opens_20 : decode cX12_opens 20 = .ok (.aload_n 0, 1) := by decide +kernel
theorem dX12_opens_21 : decode cX12_opens 21 = .ok (.getfield 176, 3) := by decide +kernel
theorem dX12_opens_24 : decode cX12_opens 24 = .ok (.iconst 1, 1) := by decide +kernel
theorem dX12_opens_25 : decode cX12_opens 25 = .ok (.iadd, 1) := by decide +kernel
theorem dX12_opens_26 : decode cX12_opens 26 = .ok (.putfield 176, 3) := by decide +kernel
theorem dX12_opens_29 : decode cX12_opens 29 = .ok (.aload_n 0, 1) := by decide +kernel
theorem dX12_opens_30 : decode cX12_opens 30 = .ok (.getfield 26, 3) := by decide +kernel
theorem dX12_opens_33 : decode cX12_opens 33 = .ok (.aload_n 0, 1) := by decide +kernel
theorem dX12_opens_34 : decode cX12_opens 34 = .ok (.getfield 179, 3) := by decide +kernel
theorem dX12_opens_37 : decode cX12_opens 37 = .ok (.ldc 175, 2) := by decide +kernel
theorem dX12_opens_39 : decode cX12_opens 39 = .ok (.iload_n 1, 1) := by decide +kernel
theorem dX12_opens_40 : decode cX12_opens 40 = .ok (.imul, 1) := by decide +kernel
theorem dX12_opens_41 : decode cX12_opens 41 = .ok (.iastore, 1) := by decide +kernel
theorem dX12_opens_42 : decode cX12_opens 42 = .ok (.aload_n 0, 1) := by decide +kernel
theorem dX12_opens_43 : decode cX12_opens 43 = .ok (.aload_n 0, 1) := by decide +kernel
theorem dX12_opens_44 : decode cX12_opens 44 = .ok (.getfield 179, 3) := by decide +kernel
theorem dX12_opens_47 : decode cX12_opens 47 = .ok (.iconst 1, 1) := by decide +kernel
theorem dX12_opens_48 : decode cX12_opens 48 = .ok (.iadd, 1) := by decide +kernel
theorem dX12_opens_49 : decode cX12_opens 49 = .ok (.putfield 179, 3) := by decide +kernel
theorem dX12_opens_52 : decode cX12_opens 52 = .ok (.aload_n 0, 1) := by decide +kernel
theorem dX12_opens_53 : decode cX12_opens 53 = .ok (.aload_n 0, 1) := by decide +kernel
theorem dX12_opens_54 : decode cX12_opens 54 = .ok (.getfield 148, 3) := by decide +kernel
theorem dX12_opens_57 : decode cX12_opens 57 = .ok (.iconst 1, 1) := by decide +kernel
theorem dX12_opens_58 : decode cX12_opens 58 = .ok (.iadd, 1) := by decide +kernel
theorem dX12_opens_59 : decode cX12_opens 59 = .ok (.putfield 148, 3) := by decide +kernel
theorem dX12_opens_62 : decode cX12_opens 62 = .ok (.iconst 1, 1) := by decide +kernel
theorem dX12_opens_63 : decode cX12_opens 63 = .ok (.ireturn, 1) := by decide +kernel
theorem dX12_top_0 : decode cX12_top 0 = .ok (.aload_n 0, 1) := by decide +kernel
theorem dX12_top_1 : decode cX12_top 1 = .ok (.getfield 179, 3) := by decide +kernel
theorem dX12_top_4 : decode cX12_top 4 = .ok (.ifCond .ne 7, 3) := by decide +kernel
theorem dX12_top_7 : decode cX12_top 7 = .ok (.iconst (-1), 1) := by decide +kernel
theorem dX12_top_8 : decode cX12_top 8 = .ok (.goto 17, 3) := by decide +kernel
theorem dX12_top_11 : decode cX12_top 11 = .ok (.aload_n 0, 1) := by decide +kernel
theorem dX12_top_12 : decode cX12_top 12 = .ok (.getfield 26, 3) := by decide +kernel
theorem dX12_top_15 : decode cX12_top 15 = .ok (.aload_n 0, 1) := by decide +kernel
theorem dX12_top_16 : decode cX12_top 16 = .ok (.getfield 179, 3) := by decide +kernel
theorem dX12_top_19 : decode cX12_top 19 = .ok (.iconst 1, 1) := by decide +kernel
theorem dX12_top_20 : decode cX12_top 20 = .ok (.isub, 1) := by decide +kernel
theorem dX12_top_21 : decode cX12_top 21 = .ok (.iaload, 1) := by decide +kernel
theorem dX12_top_22 : decode cX12_top 22 = .ok (.ldc 175, 2) := by decide +kernel
theorem dX12_top_24 : decode cX12_top 24 = .ok (.idiv, 1) := by decide +kernel
theorem dX12_top_25 : decode cX12_top 25 = .ok (.ireturn, 1) := by decide +kernel
theorem dX12_factOf_0 : decode cX12_factOf 0 = .ok (.iload_n 0, 1) := by decide +kernel
theorem dX12_factOf_1 : decode cX12_factOf 1 = .ok (.bipush 97, 2) := by decide +kernel
theorem dX12_factOf_3 : decode cX12_factOf 3 = .ok (.if_icmp .lt 14, 3) := by decide +kernel
theorem dX12_factOf_6 : decode cX12_factOf 6 = .ok (.iload_n 0, 1) := by decide +kernel
theorem dX12_factOf_7 : decode cX12_factOf 7 = .ok (.bipush 102, 2) := by decide +kernel
theorem dX12_factOf_9 : decode cX12_factOf 9 = .ok (.if_icmp .gt 8, 3) := by decide +kernel
theorem dX12_factOf_12 : decode cX12_factOf 12 = .ok (.iload_n 0, 1) := by decide +kernel
theorem dX12_factOf_13 : decode cX12_factOf 13 = .ok (.bipush 97, 2) := by decide +kernel
theorem dX12_factOf_15 : decode cX12_factOf 15 = .ok (.isub, 1) := by decide +kernel
theorem dX12_factOf_16 : decode cX12_factOf 16 = .ok (.ireturn, 1) := by decide +kernel
theorem dX12_factOf_17 : decode cX12_factOf 17 = .ok (.iload_n 0, 1) := by decide +kernel
theorem dX12_factOf_18 : decode cX12_factOf 18 = .ok (.bipush 65, 2) := by decide +kernel
theorem dX12_factOf_20 : decode cX12_factOf 20 = .ok (.if_icmp .lt 17, 3) := by decide +kernel
theorem dX12_factOf_23 : decode cX12_factOf 23 = .ok (.iload_n 0, 1) := by decide +kernel
theorem dX12_factOf_24 : decode cX12_factOf 24 = .ok (.bipush 70, 2) := by decide +kernel
theorem dX12_factOf_26 : decode cX12_factOf 26 = .ok (.if_icmp .gt 11, 3) := by decide +kernel
theorem dX12_factOf_29 : decode cX12_factOf 29 = .ok (.bipush 6, 2) := by decide +kernel
theorem dX12_factOf_31 : decode cX12_factOf 31 = .ok (.iload_n 0, 1) := by decide +kernel
theorem dX12_factOf_32 : decode cX12_factOf 32 = .ok (.iadd, 1) := by decide +kernel
theorem dX12_factOf_33 : decode cX12_factOf 33 = .ok (.bipush 65, 2) := by decide +kernel
theorem dX12_factOf_35 : decode cX12_factOf 35 = .ok (.isub, 1) := by decide +kernel
theorem dX12_factOf_36 : decode cX12_factOf 36 = .ok (.ireturn, 1) := by decide +kernel
theorem dX12_factOf_37 : decode cX12_factOf 37 = .ok (.iload_n 0, 1) := by decide +kernel
theorem dX12_factOf_38 : decode cX12_factOf 38 = .ok (.bipush 115, 2) := by decide +kernel
theorem dX12_factOf_40 : decode cX12_factOf 40 = .ok (.if_icmp .ne 8, 3) := by decide +kernel
theorem dX12_factOf_43 : decode cX12_factOf 43 = .ok (.bipush 12, 2) := by decide +kernel
theorem dX12_factOf_45 : decode cX12_factOf 45 = .ok (.goto 37, 3) := by decide +kernel
theorem dX12_factOf_48 : decode cX12_factOf 48 = .ok (.iload_n 0, 1) := by decide +kernel
theorem dX12_factOf_49 : decode cX12_factOf 49 = .ok (.bipush 108, 2) := by decide +kernel
theorem dX12_factOf_51 : decode cX12_factOf 51 = .ok (.if_icmp .ne 8, 3) := by decide +kernel
theorem dX12_factOf_54 : decode cX12_factOf 54 = .ok (.bipush 13, 2) := by decide +kernel
theorem dX12_factOf_56 : decode cX12_factOf 56 = .ok (.goto 26, 3) := by decide +kernel
theorem dX12_factOf_59 : decode cX12_factOf 59 = .ok (.iload_n 0, 1) := by decide +kernel
theorem dX12_factOf_60 : decode cX12_factOf 60 = .ok (.bipush 110, 2) := by decide +kernel
theorem dX12_factOf_62 : decode cX12_factOf 62 = .ok (.if_icmp .ne 8, 3) := by decide +kernel
theorem dX12_factOf_65 : decode cX12_factOf 65 = .ok (.bipush 14, 2) := by decide +kernel
theorem dX12_factOf_67 : decode cX12_factOf 67 = .ok (.goto 15, 3) := by decide +kernel
theorem dX12_factOf_70 : decode cX12_factOf 70 = .ok (.iload_n 0, 1) := by decide +kernel
theorem dX12_factOf_71 : decode cX12_factOf 71 = .ok (.bipush 107, 2) := by decide +kernel
theorem dX12_factOf_73 : decode cX12_factOf 73 = .ok (.if_icmp .ne 8, 3) := by decide +kernel
theorem dX12_factOf_76 : decode cX12_factOf 76 = .ok (.bipush 15, 2) := by decide +kernel
theorem dX12_factOf_78 : decode cX12_factOf 78 = .ok (.goto 4, 3) := by decide +kernel
theorem dX12_factOf_81 : decode cX12_factOf 81 = .ok (.iconst (-1), 1) := by decide +kernel
theorem dX12_factOf_82 : decode cX12_factOf 82 = .ok (.ireturn, 1) := by decide +kernel
theorem dX12_sumSign_0 : decode cX12_sumSign 0 = .ok (.iload_n 0, 1) := by decide +kernel
theorem dX12_sumSign_1 : decode cX12_sumSign 1 = .ok (.bipush 43, 2) := by decide +kernel
theorem dX12_sumSign_3 : decode cX12_sumSign 3 = .ok (.if_icmp .ne 7, 3) := by decide +kernel
theorem dX12_sumSign_6 : decode cX12_sumSign 6 = .ok (.iconst 2, 1) := by decide +kernel
theorem dX12_sumSign_7 : decode cX12_sumSign 7 = .ok (.goto 45, 3) := by decide +kernel
theorem dX12_sumSign_10 : decode cX12_sumSign 10 = .ok (.iload_n 0, 1) := by decide +kernel
theorem dX12_sumSign_11 : decode cX12_sumSign 11 = .ok (.bipush 45, 2) := by decide +kernel
theorem dX12_sumSign_13 : decode cX12_sumSign 13 = .ok (.if_icmp .ne 7, 3) := by decide +kernel
theorem dX12_sumSign_16 : decode cX12_sumSign 16 = .ok (.iconst 3, 1) := by decide +kernel
theorem dX12_sumSign_17 : decode cX12_sumSign 17 = .ok (.goto 35, 3) := by decide +kernel
theorem dX12_sumSign_20 : decode cX12_sumSign 20 = .ok (.iload_n 0, 1) := by decide +kernel
theorem dX12_sumSign_21 : decode cX12_sumSign 21 = .ok (.bipush 42, 2) := by decide +kernel
theorem dX12_sumSign_23 : decode cX12_sumSign 23 = .ok (.if_icmp .ne 7, 3) := by decide +kernel
theorem dX12_sumSign_26 : decode cX12_sumSign 26 = .ok (.iconst 4, 1) := by decide +kernel
theorem dX12_sumSign_27 : decode cX12_sumSign 27 = .ok (.goto 25, 3) := by decide +kernel
theorem dX12_sumSign_30 : decode cX12_sumSign 30 = .ok (.iload_n 0, 1) := by decide +kernel
theorem dX12_sumSign_31 : decode cX12_sumSign 31 = .ok (.bipush 47, 2) := by decide +kernel
theorem dX12_sumSign_33 : decode cX12_sumSign 33 = .ok (.if_icmp .ne 7, 3) := by decide +kernel
theorem dX12_sumSign_36 : decode cX12_sumSign 36 = .ok (.iconst 5, 1) := by decide +kernel
theorem dX12_sumSign_37 : decode cX12_sumSign 37 = .ok (.goto 15, 3) := by decide +kernel
theorem dX12_sumSign_40 : decode cX12_sumSign 40 = .ok (.iload_n 0, 1) := by decide +kernel
theorem dX12_sumSign_41 : decode cX12_sumSign 41 = .ok (.bipush 37, 2) := by decide +kernel
theorem dX12_sumSign_43 : decode cX12_sumSign 43 = .ok (.if_icmp .ne 8, 3) := by decide +kernel
theorem dX12_sumSign_46 : decode cX12_sumSign 46 = .ok (.bipush 6, 2) := by decide +kernel
theorem dX12_sumSign_48 : decode cX12_sumSign 48 = .ok (.goto 4, 3) := by decide +kernel
theorem dX12_sumSign_51 : decode cX12_sumSign 51 = .ok (.iconst (-1), 1) := by decide +kernel
theorem dX12_sumSign_52 : decode cX12_sumSign 52 = .ok (.ireturn, 1) := by decide +kernel
theorem dX12_closesSums_0 : decode cX12_closesSums 0 = .ok (.aload_n 0, 1) := by decide +kernel
theorem dX12_closesSums_1 : decode cX12_closesSums 1 = .ok (.invokevirtual 182, 3) := by decide +kernel
theorem dX12_closesSums_4 : decode cX12_closesSums 4 = .ok (.iconst 4, 1) := by decide +kernel
theorem dX12_closesSums_5 : decode cX12_closesSums 5 = .ok (.if_icmp .lt 12, 3) := by decide +kernel
theorem dX12_closesSums_8 : decode cX12_closesSums 8 = .ok (.aload_n 0, 1) := by decide +kernel
theorem dX12_closesSums_9 : decode cX12_closesSums 9 = .ok (.invokevirtual 182, 3) := by decide +kernel
theorem dX12_closesSums_12 : decode cX12_closesSums 12 = .ok (.bipush 6, 2) := by decide +kernel
theorem dX12_closesSums_14 : decode cX12_closesSums 14 = .ok (.if_icmp .le 23, 3) := by decide +kernel
theorem dX12_closesSums_17 : decode cX12_closesSums 17 = .ok (.iload_n 1, 1) := by decide +kernel
theorem dX12_closesSums_18 : decode cX12_closesSums 18 = .ok (.ifCond .eq 41, 3) := by decide +kernel
theorem dX12_closesSums_21 : decode cX12_closesSums 21 = .ok (.aload_n 0, 1) := by decide +kernel
theorem dX12_closesSums_22 : decode cX12_closesSums 22 = .ok (.invokevirtual 182, 3) := by decide +kernel
theorem dX12_closesSums_25 : decode cX12_closesSums 25 = .ok (.iconst 2, 1) := by decide +kernel
theorem dX12_closesSums_26 : decode cX12_closesSums 26 = .ok (.if_icmp .eq 11, 3) := by decide +kernel
theorem dX12_closesSums_29 : decode cX12_closesSums 29 = .ok (.aload_n 0, 1) := by decide +kernel
theorem dX12_closesSums_30 : decode cX12_closesSums 30 = .ok (.invokevirtual 182, 3) := by decide +kernel
theorem dX12_closesSums_33 : decode cX12_closesSums 33 = .ok (.iconst 3, 1) := by decide +kernel
theorem dX12_closesSums_34 : decode cX12_closesSums 34 = .ok (.if_icmp .ne 25, 3) := by decide +kernel
theorem dX12_closesSums_37 : decode cX12_closesSums 37 = .ok (.aload_n 0, 1) := by decide +kernel
theorem dX12_closesSums_38 : decode cX12_closesSums 38 = .ok (.aload_n 0, 1) := by decide +kernel
theorem dX12_closesSums_39 : decode cX12_closesSums 39 = .ok (.invokevirtual 182, 3) := by decide +kernel
theorem dX12_closesSums_42 : decode cX12_closesSums 42 = .ok (.iconst 0, 1) := by decide +kernel
theorem dX12_closesSums_43 : decode cX12_closesSums 43 = .ok (.invokevirtual 185, 3) := by decide +kernel
theorem dX12_closesSums_46 : decode cX12_closesSums 46 = .ok (.aload_n 0, 1) := by decide +kernel
theorem dX12_closesSums_47 : decode cX12_closesSums 47 = .ok (.aload_n 0, 1) := by decide +kernel
theorem dX12_closesSums_48 : decode cX12_closesSums 48 = .ok (.getfield 179, 3) := by decide +kernel
theorem dX12_closesSums_51 : decode cX12_closesSums 51 = .ok (.iconst 1, 1) := by decide +kernel
theorem dX12_closesSums_52 : decode cX12_closesSums 52 = .ok (.isub, 1) := by decide +kernel
theorem dX12_closesSums_53 : decode cX12_closesSums 53 = .ok (.putfield 179, 3) := by decide +kernel
theorem dX12_closesSums_56 : decode cX12_closesSums 56 = .ok (.goto (-56), 3) := by decide +kernel
theorem dX12_closesSums_59 : decode cX12_closesSums 59 = .ok (.return_, 1) := by decide +kernel
theorem dX12_readsFactor_0 : decode cX12_readsFactor 0 = .ok (.aload_n 0, 1) := by decide +kernel
theorem dX12_readsFactor_1 : decode cX12_readsFactor 1 = .ok (.invokevirtual 154, 3) := by decide +kernel
theorem dX12_readsFactor_4 : decode cX12_readsFactor 4 = .ok (.bipush 91, 2) := by decide +kernel
theorem dX12_readsFactor_6 : decode cX12_readsFactor 6 = .ok (.if_icmp .ne 14, 3) := by decide +kernel
theorem dX12_readsFactor_9 : decode cX12_readsFactor 9 = .ok (.aload_n 0, 1) := by decide +kernel
theorem dX12_readsFactor_10 : decode cX12_readsFactor 10 = .ok (.bipush 14, 2) := by decide +kernel
theorem dX12_readsFactor_12 : decode cX12_readsFactor 12 = .ok (.invokevirtual 189, 3) := by decide +kernel
theorem dX12_readsFactor_15 : decode cX12_readsFactor 15 = .ok (.ifCond .ne (-15), 3) := by decide +kernel
theorem dX12_readsFactor_18 : decode cX12_readsFactor 18 = .ok (.iconst 0, 1) := by decide +kernel
theorem dX12_readsFactor_19 : decode cX12_readsFactor 19 = .ok (.ireturn, 1) := by decide +kernel
theorem dX12_readsFactor_20 : decode cX12_readsFactor 20 = .ok (.aload_n 0, 1) := by decide +kernel
theorem dX12_readsFactor_21 : decode cX12_readsFactor 21 = .ok (.invokevirtual 168, 3) := by decide +kernel
theorem dX12_readsFactor_24 : decode cX12_readsFactor 24 = .ok (.ifCond .eq 23, 3) := by decide +kernel
theorem dX12_readsFactor_27 : decode cX12_readsFactor 27 = .ok (.aload_n 0, 1) := by decide +kernel
theorem dX12_readsFactor_28 : decode cX12_readsFactor 28 = .ok (.invokevirtual 192, 3) := by decide +kernel
theorem dX12_readsFactor_31 : decode cX12_readsFactor 31 = .ok (.ifCond .ne 5, 3) := by decide +kernel
theorem dX12_readsFactor_34 : decode cX12_readsFactor 34 = .ok (.iconst 0, 1) := by decide +kernel
theorem dX12_readsFactor_35 : decode cX12_readsFactor 35 = .ok (.ireturn, 1) := by decide +kernel
theorem dX12_readsFactor_36 : decode cX12_readsFactor 36 = .ok (.aload_n 0, 1) := by decide +kernel
theorem dX12_readsFactor_37 : decode cX12_readsFactor 37 = .ok (.iconst 0, 1) := by decide +kernel
theorem dX12_readsFactor_38 : decode cX12_readsFactor 38 = .ok (.aload_n 0, 1) := by decide +kernel
theorem dX12_readsFactor_39 : decode cX12_readsFactor 39 = .ok (.getfield 165, 3) := by decide +kernel
theorem dX12_readsFactor_42 : decode cX12_readsFactor 42 = .ok (.invokevirtual 185, 3) := by decide +kernel
theorem dX12_readsFactor_45 : decode cX12_readsFactor 45 = .ok (.iconst 1, 1) := by decide +kernel
theorem dX12_readsFactor_46 : decode cX12_readsFactor 46 = .ok (.ireturn, 1) := by decide +kernel
theorem dX12_readsFactor_47 : decode cX12_readsFactor 47 = .ok (.aload_n 0, 1) := by decide +kernel
theorem dX12_readsFactor_48 : decode cX12_readsFactor 48 = .ok (.invokevirtual 154, 3) := by decide +kernel
theorem dX12_readsFactor_51 : decode cX12_readsFactor 51 = .ok (.invokestatic 195, 3) := by decide +kernel
theorem dX12_readsFactor_54 : decode cX12_readsFactor 54 = .ok (.istore_n 1, 1) := by decide +kernel
theorem dX12_readsFactor_55 : decode cX12_readsFactor 55 = .ok (.iload_n 1, 1) := by decide +kernel
theorem dX12_readsFactor_56 : decode cX12_readsFactor 56 = .ok (.iconst (-1), 1) := by decide +kernel
theorem dX12_readsFactor_57 : decode cX12_readsFactor 57 = .ok (.if_icmp .ne 13, 3) := by decide +kernel
theorem dX12_readsFactor_60 : decode cX12_readsFactor 60 = .ok (.aload_n 0, 1) := by decide +kernel
theorem dX12_readsFactor_61 : decode cX12_readsFactor 61 = .ok (.iconst 1, 1) := by decide +kernel
theorem dX12_readsFactor_62 : decode cX12_readsFactor 62 = .ok (.aload_n 0, 1) := by decide +kernel
theorem dX12_readsFactor_63 : decode cX12_readsFactor 63 = .ok (.getfield 148, 3) := by decide +kernel
theorem dX12_readsFactor_66 : decode cX12_readsFactor 66 = .ok (.invokevirtual 161, 3) := by decide +kernel
theorem dX12_readsFactor_69 : decode cX12_readsFactor 69 = .ok (.ireturn, 1) := by decide +kernel
theorem dX12_readsFactor_70 : decode cX12_readsFactor 70 = .ok (.aload_n 0, 1) := by decide +kernel
theorem dX12_readsFactor_71 : decode cX12_readsFactor 71 = .ok (.iconst 1, 1) := by decide +kernel
theorem dX12_readsFactor_72 : decode cX12_readsFactor 72 = .ok (.iload_n 1, 1) := by decide +kernel
theorem dX12_readsFactor_73 : decode cX12_readsFactor 73 = .ok (.invokevirtual 185, 3) := by decide +kernel
theorem dX12_readsFactor_76 : decode cX12_readsFactor 76 = .ok (.aload_n 0, 1) := by decide +kernel
theorem dX12_readsFactor_77 : decode cX12_readsFactor 77 = .ok (.aload_n 0, 1) := by decide +kernel
theorem dX12_readsFactor_78 : decode cX12_readsFactor 78 = .ok (.getfield 148, 3) := by decide +kernel
theorem dX12_readsFactor_81 : decode cX12_readsFactor 81 = .ok (.iconst 1, 1) := by decide +kernel
theorem dX12_readsFactor_82 : decode cX12_readsFactor 82 = .ok (.iadd, 1) := by decide +kernel
theorem dX12_readsFactor_83 : decode cX12_readsFactor 83 = .ok (.putfield 148, 3) := by decide +kernel
theorem dX12_readsFactor_86 : decode cX12_readsFactor 86 = .ok (.iconst 1, 1) := by decide +kernel
theorem dX12_readsFactor_87 : decode cX12_readsFactor 87 = .ok (.ireturn, 1) := by decide +kernel
theorem dX12_hasOpenSum_0 : decode cX12_hasOpenSum 0 = .ok (.iload_n 1, 1) := by decide +kernel
theorem dX12_hasOpenSum_1 : decode cX12_hasOpenSum 1 = .ok (.istore_n 2, 1) := by decide +kernel
theorem dX12_hasOpenSum_2 : decode cX12_hasOpenSum 2 = .ok (.iload_n 2, 1) := by decide +kernel
theorem dX12_hasOpenSum_3 : decode cX12_hasOpenSum 3 = .ok (.aload_n 0, 1) := by decide +kernel
theorem dX12_hasOpenSum_4 : decode cX12_hasOpenSum 4 = .ok (.getfield 179, 3) := by decide +kernel
theorem dX12_hasOpenSum_7 : decode cX12_hasOpenSum 7 = .ok (.if_icmp .ge 25, 3) := by decide +kernel
theorem dX12_hasOpenSum_10 : decode cX12_hasOpenSum 10 = .ok (.aload_n 0, 1) := by decide +kernel
theorem dX12_hasOpenSum_11 : decode cX12_hasOpenSum 11 = .ok (.getfield 26, 3) := by decide +kernel
theorem dX12_hasOpenSum_14 : decode cX12_hasOpenSum 14 = .ok (.iload_n 2, 1) := by decide +kernel
theorem dX12_hasOpenSum_15 : decode cX12_hasOpenSum 15 = .ok (.iaload, 1) := by decide +kernel
theorem dX12_hasOpenSum_16 : decode cX12_hasOpenSum 16 = .ok (.ldc 175, 2) := by decide +kernel
theorem dX12_hasOpenSum_18 : decode cX12_hasOpenSum 18 = .ok (.idiv, 1) := by decide +kernel
theorem dX12_hasOpenSum_19 : decode cX12_hasOpenSum 19 = .ok (.bipush 14, 2) := by decide +kernel
theorem dX12_hasOpenSum_21 : decode cX12_hasOpenSum 21 = .ok (.if_icmp .ne 5, 3) := by decide +kernel
theorem dX12_hasOpenSum_24 : decode cX12_hasOpenSum 24 = .ok (.iconst 1, 1) := by decide +kernel
theorem dX12_hasOpenSum_25 : decode cX12_hasOpenSum 25 = .ok (.ireturn, 1) := by decide +kernel
theorem dX12_hasOpenSum_26 : decode cX12_hasOpenSum 26 = .ok (.iinc 2 1, 3) := by decide +kernel
theorem dX12_hasOpenSum_29 : decode cX12_hasOpenSum 29 = .ok (.goto (-27), 3) := by decide +kernel
theorem dX12_hasOpenSum_32 : decode cX12_hasOpenSum 32 = .ok (.iconst 0, 1) := by decide +kernel
theorem dX12_hasOpenSum_33 : decode cX12_hasOpenSum 33 = .ok (.ireturn, 1) := by decide +kernel
theorem dX12_readsSum_0 : decode cX12_readsSum 0 = .ok (.aload_n 0, 1) := by decide +kernel
theorem dX12_readsSum_1 : decode cX12_readsSum 1 = .ok (.getfield 179, 3) := by decide +kernel
theorem dX12_readsSum_4 : decode cX12_readsSum 4 = .ok (.istore_n 1, 1) := by decide +kernel
theorem dX12_readsSum_5 : decode cX12_readsSum 5 = .ok (.aload_n 0, 1) := by decide +kernel
theorem dX12_readsSum_6 : decode cX12_readsSum 6 = .ok (.invokevirtual 199, 3) := by decide +kernel
theorem dX12_readsSum_9 : decode cX12_readsSum 9 = .ok (.ifCond .ne 5, 3) := by decide +kernel
theorem dX12_readsSum_12 : decode cX12_readsSum 12 = .ok (.iconst 0, 1) := by decide +kernel
theorem dX12_readsSum_13 : decode cX12_readsSum 13 = .ok (.ireturn, 1) := by decide +kernel
theorem dX12_readsSum_14 : decode cX12_readsSum 14 = .ok (.aload_n 0, 1) := by decide +kernel
theorem dX12_readsSum_15 : decode cX12_readsSum 15 = .ok (.invokevirtual 154, 3) := by decide +kernel
theorem dX12_readsSum_18 : decode cX12_readsSum 18 = .ok (.invokestatic 202, 3) := by decide +kernel
theorem dX12_readsSum_21 : decode cX12_readsSum 21 = .ok (.istore_n 2, 1) := by decide +kernel
theorem dX12_readsSum_22 : decode cX12_readsSum 22 = .ok (.iload_n 2, 1) := by decide +kernel
theorem dX12_readsSum_23 : decode cX12_readsSum 23 = .ok (.iconst (-1), 1) := by decide +kernel
theorem dX12_readsSum_24 : decode cX12_readsSum 24 = .ok (.if_icmp .eq 59, 3) := by decide +kernel
theorem dX12_readsSum_27 : decode cX12_readsSum 27 = .ok (.aload_n 0, 1) := by decide +kernel
theorem dX12_readsSum_28 : decode cX12_readsSum 28 = .ok (.iload_n 2, 1) := by decide +kernel
theorem dX12_readsSum_29 : decode cX12_readsSum 29 = .ok (.iconst 4, 1) := by decide +kernel
theorem dX12_readsSum_30 : decode cX12_readsSum 30 = .ok (.if_icmp .ge 7, 3) := by decide +kernel
theorem dX12_readsSum_33 : decode cX12_readsSum 33 = .ok (.iconst 1, 1) := by decide +kernel
theorem dX12_readsSum_34 : decode cX12_readsSum 34 = .ok (.goto 4, 3) := by decide +kernel
theorem dX12_readsSum_37 : decode cX12_readsSum 37 = .ok (.iconst 0, 1) := by decide +kernel
theorem dX12_readsSum_38 : decode cX12_readsSum 38 = .ok (.invokevirtual 205, 3) := by decide +kernel
theorem dX12_readsSum_41 : decode cX12_readsSum 41 = .ok (.aload_n 0, 1) := by decide +kernel
theorem dX12_readsSum_42 : decode cX12_readsSum 42 = .ok (.getfield 26, 3) := by decide +kernel
theorem dX12_readsSum_45 : decode cX12_readsSum 45 = .ok (.aload_n 0, 1) := by decide +kernel
theorem dX12_readsSum_46 : decode cX12_readsSum 46 = .ok (.getfield 179, 3) := by decide +kernel
theorem dX12_readsSum_49 : decode cX12_readsSum 49 = .ok (.ldc 175, 2) := by decide +kernel
theorem dX12_readsSum_51 : decode cX12_readsSum 51 = .ok (.iload_n 2, 1) := by decide +kernel
theorem dX12_readsSum_52 : decode cX12_readsSum 52 = .ok (.imul, 1) := by decide +kernel
theorem dX12_readsSum_53 : decode cX12_readsSum 53 = .ok (.iastore, 1) := by decide +kernel
theorem dX12_readsSum_54 : decode cX12_readsSum 54 = .ok (.aload_n 0, 1) := by decide +kernel
theorem dX12_readsSum_55 : decode cX12_readsSum 55 = .ok (.aload_n 0, 1) := by decide +kernel
theorem dX12_readsSum_56 : decode cX12_readsSum 56 = .ok (.getfield 179, 3) := by decide +kernel
theorem dX12_readsSum_59 : decode cX12_readsSum 59 = .ok (.iconst 1, 1) := by decide +kernel
theorem dX12_readsSum_60 : decode cX12_readsSum 60 = .ok (.iadd, 1) := by decide +kernel
theorem dX12_readsSum_61 : decode cX12_readsSum 61 = .ok (.putfield 179, 3) := by decide +kernel
theorem dX12_readsSum_64 : decode cX12_readsSum 64 = .ok (.aload_n 0, 1) := by decide +kernel
theorem dX12_readsSum_65 : decode cX12_readsSum 65 = .ok (.aload_n 0, 1) := by decide +kernel
theorem dX12_readsSum_66 : decode cX12_readsSum 66 = .ok (.getfield 148, 3) := by decide +kernel
theorem dX12_readsSum_69 : decode cX12_readsSum 69 = .ok (.iconst 1, 1) := by decide +kernel
theorem dX12_readsSum_70 : decode cX12_readsSum 70 = .ok (.iadd, 1) := by decide +kernel
theorem dX12_readsSum_71 : decode cX12_readsSum 71 = .ok (.putfield 148, 3) := by decide +kernel
theorem dX12_readsSum_74 : decode cX12_readsSum 74 = .ok (.aload_n 0, 1) := by decide +kernel
theorem dX12_readsSum_75 : decode cX12_readsSum 75 = .ok (.invokevirtual 199, 3) := by decide +kernel
theorem dX12_readsSum_78 : decode cX12_readsSum 78 = .ok (.ifCond .ne 85, 3) := by decide +kernel
theorem dX12_readsSum_81 : decode cX12_readsSum 81 = .ok (.iconst 0, 1) := by decide +kernel
theorem dX12_readsSum_82 : decode cX12_readsSum 82 = .ok (.ireturn, 1) := by decide +kernel
theorem dX12_readsSum_83 : decode cX12_readsSum 83 = .ok (.aload_n 0, 1) := by decide +kernel
theorem dX12_readsSum_84 : decode cX12_readsSum 84 = .ok (.invokevirtual 154, 3) := by decide +kernel
theorem dX12_readsSum_87 : decode cX12_readsSum 87 = .ok (.bipush 93, 2) := by decide +kernel
theorem dX12_readsSum_89 : decode cX12_readsSum 89 = .ok (.if_icmp .ne 49, 3) := by decide +kernel
theorem dX12_readsSum_92 : decode cX12_readsSum 92 = .ok (.aload_n 0, 1) := by decide +kernel
theorem dX12_readsSum_93 : decode cX12_readsSum 93 = .ok (.iload_n 1, 1) := by decide +kernel
theorem dX12_readsSum_94 : decode cX12_readsSum 94 = .ok (.invokevirtual 209, 3) := by decide +kernel
theorem dX12_readsSum_97 : decode cX12_readsSum 97 = .ok (.ifCond .eq 41, 3) := by decide +kernel
theorem dX12_readsSum_100 : decode cX12_readsSum 100 = .ok (.aload_n 0, 1) := by decide +kernel
theorem dX12_readsSum_101 : decode cX12_readsSum 101 = .ok (.iconst 1, 1) := by decide +kernel
theorem dX12_readsSum_102 : decode cX12_readsSum 102 = .ok (.invokevirtual 205, 3) := by decide +kernel
theorem dX12_readsSum_105 : decode cX12_readsSum 105 = .ok (.aload_n 0, 1) := by decide +kernel
theorem dX12_readsSum_106 : decode cX12_readsSum 106 = .ok (.aload_n 0, 1) := by decide +kernel
theorem dX12_readsSum_107 : decode cX12_readsSum 107 = .ok (.getfield 179, 3) := by decide +kernel
theorem dX12_readsSum_110 : decode cX12_readsSum 110 = .ok (.iconst 1, 1) := by decide +kernel
theorem dX12_readsSum_111 : decode cX12_readsSum 111 = .ok (.isub, 1) := by decide +kernel
theorem dX12_readsSum_112 : decode cX12_readsSum 112 = .ok (.putfield 179, 3) := by decide +kernel
theorem dX12_readsSum_115 : decode cX12_readsSum 115 = .ok (.aload_n 0, 1) := by decide +kernel
theorem dX12_readsSum_116 : decode cX12_readsSum 116 = .ok (.aload_n 0, 1) := by decide +kernel
theorem dX12_readsSum_117 : decode cX12_readsSum 117 = .ok (.getfield 176, 3) := by decide +kernel
theorem dX12_readsSum_120 : decode cX12_readsSum 120 = .ok (.iconst 1, 1) := by decide +kernel
theorem dX12_readsSum_121 : decode cX12_readsSum 121 = .ok (.isub, 1) := by decide +kernel
theorem dX12_readsSum_122 : decode cX12_readsSum 122 = .ok (.putfield 176, 3) := by decide +kernel
theorem dX12_readsSum_125 : decode cX12_readsSum 125 = .ok (.aload_n 0, 1) := by decide +kernel
theorem dX12_readsSum_126 : decode cX12_readsSum 126 = .ok (.aload_n 0, 1) := by decide +kernel
theorem dX12_readsSum_127 : decode cX12_readsSum 127 = .ok (.getfield 148, 3) := by decide +kernel
theorem dX12_readsSum_130 : decode cX12_readsSum 130 = .ok (.iconst 1, 1) := by decide +kernel
theorem dX12_readsSum_131 : decode cX12_readsSum 131 = .ok (.iadd, 1) := by decide +kernel
theorem dX12_readsSum_132 : decode cX12_readsSum 132 = .ok (.putfield 148, 3) := by decide +kernel
theorem dX12_readsSum_135 : decode cX12_readsSum 135 = .ok (.goto 28, 3) := by decide +kernel
theorem dX12_readsSum_138 : decode cX12_readsSum 138 = .ok (.aload_n 0, 1) := by decide +kernel
theorem dX12_readsSum_139 : decode cX12_readsSum 139 = .ok (.iload_n 1, 1) := by decide +kernel
theorem dX12_readsSum_140 : decode cX12_readsSum 140 = .ok (.invokevirtual 209, 3) := by decide +kernel
theorem dX12_readsSum_143 : decode cX12_readsSum 143 = .ok (.ifCond .eq 13, 3) := by decide +kernel
theorem dX12_readsSum_146 : decode cX12_readsSum 146 = .ok (.aload_n 0, 1) := by decide +kernel
theorem dX12_readsSum_147 : decode cX12_readsSum 147 = .ok (.iconst 1, 1) := by decide +kernel
theorem dX12_readsSum_148 : decode cX12_readsSum 148 = .ok (.aload_n 0, 1) := by decide +kernel
theorem dX12_readsSum_149 : decode cX12_readsSum 149 = .ok (.getfield 148, 3) := by decide +kernel
theorem dX12_readsSum_152 : decode cX12_readsSum 152 = .ok (.invokevirtual 161, 3) := by decide +kernel
theorem dX12_readsSum_155 : decode cX12_readsSum 155 = .ok (.ireturn, 1) := by decide +kernel
theorem dX12_readsSum_156 : decode cX12_readsSum 156 = .ok (.aload_n 0, 1) := by decide +kernel
theorem dX12_readsSum_157 : decode cX12_readsSum 157 = .ok (.iconst 1, 1) := by decide +kernel
theorem dX12_readsSum_158 : decode cX12_readsSum 158 = .ok (.invokevirtual 205, 3) := by decide +kernel
theorem dX12_readsSum_161 : decode cX12_readsSum 161 = .ok (.iconst 1, 1) := by decide +kernel
theorem dX12_readsSum_162 : decode cX12_readsSum 162 = .ok (.ireturn, 1) := by decide +kernel
theorem dX12_readsSum_163 : decode cX12_readsSum 163 = .ok (.goto (-149), 3) := by decide +kernel
theorem dX12_endsPiece_0 : decode cX12_endsPiece 0 = .ok (.aload_n 0, 1) := by decide +kernel
theorem dX12_endsPiece_1 : decode cX12_endsPiece 1 = .ok (.invokevirtual 182, 3) := by decide +kernel
theorem dX12_endsPiece_4 : decode cX12_endsPiece 4 = .ok (.bipush 10, 2) := by decide +kernel
theorem dX12_endsPiece_6 : decode cX12_endsPiece 6 = .ok (.if_icmp .ne 33, 3) := by decide +kernel
theorem dX12_endsPiece_9 : decode cX12_endsPiece 9 = .ok (.aload_n 0, 1) := by decide +kernel
theorem dX12_endsPiece_10 : decode cX12_endsPiece 10 = .ok (.bipush 10, 2) := by decide +kernel
theorem dX12_endsPiece_12 : decode cX12_endsPiece 12 = .ok (.iconst 0, 1) := by decide +kernel
theorem dX12_endsPiece_13 : decode cX12_endsPiece 13 = .ok (.invokevirtual 185, 3) := by decide +kernel
theorem dX12_endsPiece_16 : decode cX12_endsPiece 16 = .ok (.aload_n 0, 1) := by decide +kernel
theorem dX12_endsPiece_17 : decode cX12_endsPiece 17 = .ok (.aload_n 0, 1) := by decide +kernel
theorem dX12_endsPiece_18 : decode cX12_endsPiece 18 = .ok (.getfield 179, 3) := by decide +kernel
theorem dX12_endsPiece_21 : decode cX12_endsPiece 21 = .ok (.iconst 1, 1) := by decide +kernel
theorem dX12_endsPiece_22 : decode cX12_endsPiece 22 = .ok (.isub, 1) := by decide +kernel
theorem dX12_endsPiece_23 : decode cX12_endsPiece 23 = .ok (.putfield 179, 3) := by decide +kernel
theorem dX12_endsPiece_26 : decode cX12_endsPiece 26 = .ok (.aload_n 0, 1) := by decide +kernel
theorem dX12_endsPiece_27 : decode cX12_endsPiece 27 = .ok (.aload_n 0, 1) := by decide +kernel
theorem dX12_endsPiece_28 : decode cX12_endsPiece 28 = .ok (.getfield 176, 3) := by decide +kernel
theorem dX12_endsPiece_31 : decode cX12_endsPiece 31 = .ok (.iconst 1, 1) := by decide +kernel
theorem dX12_endsPiece_32 : decode cX12_endsPiece 32 = .ok (.isub, 1) := by decide +kernel
theorem dX12_endsPiece_33 : decode cX12_endsPiece 33 = .ok (.putfield 176, 3) := by decide +kernel
theorem dX12_endsPiece_36 : decode cX12_endsPiece 36 = .ok (.goto (-36), 3) := by decide +kernel
theorem dX12_endsPiece_39 : decode cX12_endsPiece 39 = .ok (.return_, 1) := by decide +kernel
theorem dX12_lands_0 : decode cX12_lands 0 = .ok (.aload_n 0, 1) := by decide +kernel
theorem dX12_lands_1 : decode cX12_lands 1 = .ok (.invokevirtual 182, 3) := by decide +kernel
theorem dX12_lands_4 : decode cX12_lands 4 = .ok (.bipush 11, 2) := by decide +kernel
theorem dX12_lands_6 : decode cX12_lands 6 = .ok (.if_icmp .eq 16, 3) := by decide +kernel
theorem dX12_lands_9 : decode cX12_lands 9 = .ok (.iload_n 1, 1) := by decide +kernel
theorem dX12_lands_10 : decode cX12_lands 10 = .ok (.ifCond .eq 63, 3) := by decide +kernel
theorem dX12_lands_13 : decode cX12_lands 13 = .ok (.aload_n 0, 1) := by decide +kernel
theorem dX12_lands_14 : decode cX12_lands 14 = .ok (.invokevirtual 182, 3) := by decide +kernel
theorem dX12_lands_17 : decode cX12_lands 17 = .ok (.bipush 12, 2) := by decide +kernel
theorem dX12_lands_19 : decode cX12_lands 19 = .ok (.if_icmp .ne 54, 3) := by decide +kernel
theorem dX12_lands_22 : decode cX12_lands 22 = .ok (.aload_n 0, 1) := by decide +kernel
theorem dX12_lands_23 : decode cX12_lands 23 = .ok (.getfield 26, 3) := by decide +kernel
theorem dX12_lands_26 : decode cX12_lands 26 = .ok (.aload_n 0, 1) := by decide +kernel
theorem dX12_lands_27 : decode cX12_lands 27 = .ok (.getfield 179, 3) := by decide +kernel
theorem dX12_lands_30 : decode cX12_lands 30 = .ok (.iconst 1, 1) := by decide +kernel
theorem dX12_lands_31 : decode cX12_lands 31 = .ok (.isub, 1) := by decide +kernel
theorem dX12_lands_32 : decode cX12_lands 32 = .ok (.iaload, 1) := by decide +kernel
theorem dX12_lands_33 : decode cX12_lands 33 = .ok (.ldc 175, 2) := by decide +kernel
theorem dX12_lands_35 : decode cX12_lands 35 = .ok (.irem, 1) := by decide +kernel
theorem dX12_lands_36 : decode cX12_lands 36 = .ok (.istore_n 2, 1) := by decide +kernel
theorem dX12_lands_37 : decode cX12_lands 37 = .ok (.aload_n 0, 1) := by decide +kernel
theorem dX12_lands_38 : decode cX12_lands 38 = .ok (.getfield 23, 3) := by decide +kernel
theorem dX12_lands_41 : decode cX12_lands 41 = .ok (.iload_n 2, 1) := by decide +kernel
theorem dX12_lands_42 : decode cX12_lands 42 = .ok (.ldc 175, 2) := by decide +kernel
theorem dX12_lands_44 : decode cX12_lands 44 = .ok (.aload_n 0, 1) := by decide +kernel
theorem dX12_lands_45 : decode cX12_lands 45 = .ok (.getfield 23, 3) := by decide +kernel
theorem dX12_lands_48 : decode cX12_lands 48 = .ok (.iload_n 2, 1) := by decide +kernel
theorem dX12_lands_49 : decode cX12_lands 49 = .ok (.iaload, 1) := by decide +kernel
theorem dX12_lands_50 : decode cX12_lands 50 = .ok (.ldc 175, 2) := by decide +kernel
theorem dX12_lands_52 : decode cX12_lands 52 = .ok (.idiv, 1) := by decide +kernel
theorem dX12_lands_53 : decode cX12_lands 53 = .ok (.imul, 1) := by decide +kernel
theorem dX12_lands_54 : decode cX12_lands 54 = .ok (.aload_n 0, 1) := by decide +kernel
theorem dX12_lands_55 : decode cX12_lands 55 = .ok (.getfield 172, 3) := by decide +kernel
theorem dX12_lands_58 : decode cX12_lands 58 = .ok (.iadd, 1) := by decide +kernel
theorem dX12_lands_59 : decode cX12_lands 59 = .ok (.iastore, 1) := by decide +kernel
theorem dX12_lands_60 : decode cX12_lands 60 = .ok (.aload_n 0, 1) := by decide +kernel
theorem dX12_lands_61 : decode cX12_lands 61 = .ok (.aload_n 0, 1) := by decide +kernel
theorem dX12_lands_62 : decode cX12_lands 62 = .ok (.getfield 179, 3) := by decide +kernel
theorem dX12_lands_65 : decode cX12_lands 65 = .ok (.iconst 1, 1) := by decide +kernel
theorem dX12_lands_66 : decode cX12_lands 66 = .ok (.isub, 1) := by decide +kernel
theorem dX12_lands_67 : decode cX12_lands 67 = .ok (.putfield 179, 3) := by decide +kernel
theorem dX12_lands_70 : decode cX12_lands 70 = .ok (.goto (-70), 3) := by decide +kernel
theorem dX12_lands_73 : decode cX12_lands 73 = .ok (.return_, 1) := by decide +kernel
theorem dX12_jumps_0 : decode cX12_jumps 0 = .ok (.aload_n 0, 1) := by decide +kernel
theorem dX12_jumps_1 : decode cX12_jumps 1 = .ok (.getfield 26, 3) := by decide +kernel
theorem dX12_jumps_4 : decode cX12_jumps 4 = .ok (.aload_n 0, 1) := by decide +kernel
theorem dX12_jumps_5 : decode cX12_jumps 5 = .ok (.getfield 179, 3) := by decide +kernel
theorem dX12_jumps_8 : decode cX12_jumps 8 = .ok (.ldc 175, 2) := by decide +kernel
theorem dX12_jumps_10 : decode cX12_jumps 10 = .ok (.iload_n 1, 1) := by decide +kernel
theorem dX12_jumps_11 : decode cX12_jumps 11 = .ok (.imul, 1) := by decide +kernel
theorem dX12_jumps_12 : decode cX12_jumps 12 = .ok (.aload_n 0, 1) := by decide +kernel
theorem dX12_jumps_13 : decode cX12_jumps 13 = .ok (.getfield 172, 3) := by decide +kernel
theorem dX12_jumps_16 : decode cX12_jumps 16 = .ok (.iadd, 1) := by decide +kernel
theorem dX12_jumps_17 : decode cX12_jumps 17 = .ok (.iastore, 1) := by decide +kernel
theorem dX12_jumps_18 : decode cX12_jumps 18 = .ok (.aload_n 0, 1) := by decide +kernel
theorem dX12_jumps_19 : decode cX12_jumps 19 = .ok (.aload_n 0, 1) := by decide +kernel
theorem dX12_jumps_20 : decode cX12_jumps 20 = .ok (.getfield 179, 3) := by decide +kernel
theorem dX12_jumps_23 : decode cX12_jumps 23 = .ok (.iconst 1, 1) := by decide +kernel
theorem dX12_jumps_24 : decode cX12_jumps 24 = .ok (.iadd, 1) := by decide +kernel
theorem dX12_jumps_25 : decode cX12_jumps 25 = .ok (.putfield 179, 3) := by decide +kernel
theorem dX12_jumps_28 : decode cX12_jumps 28 = .ok (.aload_n 0, 1) := by decide +kernel
theorem dX12_jumps_29 : decode cX12_jumps 29 = .ok (.iload_n 1, 1) := by decide +kernel
theorem dX12_jumps_30 : decode cX12_jumps 30 = .ok (.iconst 0, 1) := by decide +kernel
theorem dX12_jumps_31 : decode cX12_jumps 31 = .ok (.invokevirtual 185, 3) := by decide +kernel
theorem dX12_jumps_34 : decode cX12_jumps 34 = .ok (.aload_n 0, 1) := by decide +kernel
theorem dX12_jumps_35 : decode cX12_jumps 35 = .ok (.aload_n 0, 1) := by decide +kernel
theorem dX12_jumps_36 : decode cX12_jumps 36 = .ok (.getfield 148, 3) := by decide +kernel
theorem dX12_jumps_39 : decode cX12_jumps 39 = .ok (.iconst 1, 1) := by decide +kernel
theorem dX12_jumps_40 : decode cX12_jumps 40 = .ok (.iadd, 1) := by decide +kernel
theorem dX12_jumps_41 : decode cX12_jumps 41 = .ok (.putfield 148, 3) := by decide +kernel
theorem dX12_jumps_44 : decode cX12_jumps 44 = .ok (.return_, 1) := by decide +kernel
theorem dX12_readsCompared_0 : decode cX12_readsCompared 0 = .ok (.aload_n 0, 1) := by decide +kernel
theorem dX12_readsCompared_1 : decode cX12_readsCompared 1 = .ok (.invokevirtual 212, 3) := by decide +kernel
theorem dX12_readsCompared_4 : decode cX12_readsCompared 4 = .ok (.ifCond .ne 5, 3) := by decide +kernel
theorem dX12_readsCompared_7 : decode cX12_readsCompared 7 = .ok (.iconst 0, 1) := by decide +kernel
theorem dX12_readsCompared_8 : decode cX12_readsCompared 8 = .ok (.ireturn, 1) := by decide +kernel
theorem dX12_readsCompared_9 : decode cX12_readsCompared 9 = .ok (.aload_n 0, 1) := by decide +kernel
theorem dX12_readsCompared_10 : decode cX12_readsCompared 10 = .ok (.invokevirtual 154, 3) := by decide +kernel
theorem dX12_readsCompared_13 : decode cX12_readsCompared 13 = .ok (.bipush 60, 2) := by decide +kernel
theorem dX12_readsCompared_15 : decode cX12_readsCompared 15 = .ok (.if_icmp .ne 8, 3) := by decide +kernel
theorem dX12_readsCompared_18 : decode cX12_readsCompared 18 = .ok (.bipush 7, 2) := by decide +kernel
theorem dX12_readsCompared_20 : decode cX12_readsCompared 20 = .ok (.goto 32, 3) := by decide +kernel
theorem dX12_readsCompared_23 : decode cX12_readsCompared 23 = .ok (.aload_n 0, 1) := by decide +kernel
theorem dX12_readsCompared_24 : decode cX12_readsCompared 24 = .ok (.invokevirtual 154, 3) := by decide +kernel
theorem dX12_readsCompared_27 : decode cX12_readsCompared 27 = .ok (.bipush 62, 2) := by decide +kernel
theorem dX12_readsCompared_29 : decode cX12_readsCompared 29 = .ok (.if_icmp .ne 8, 3) := by decide +kernel
theorem dX12_readsCompared_32 : decode cX12_readsCompared 32 = .ok (.bipush 8, 2) := by decide +kernel
theorem dX12_readsCompared_34 : decode cX12_readsCompared 34 = .ok (.goto 18, 3) := by decide +kernel
theorem dX12_readsCompared_37 : decode cX12_readsCompared 37 = .ok (.aload_n 0, 1) := by decide +kernel
theorem dX12_readsCompared_38 : decode cX12_readsCompared 38 = .ok (.invokevirtual 154, 3) := by decide +kernel
theorem dX12_readsCompared_41 : decode cX12_readsCompared 41 = .ok (.bipush 61, 2) := by decide +kernel
theorem dX12_readsCompared_43 : decode cX12_readsCompared 43 = .ok (.if_icmp .ne 8, 3) := by decide +kernel
theorem dX12_readsCompared_46 : decode cX12_readsCompared 46 = .ok (.bipush 9, 2) := by decide +kernel
theorem dX12_readsCompared_48 : decode cX12_readsCompared 48 = .ok (.goto 4, 3) := by decide +kernel
theorem dX12_readsCompared_51 : decode cX12_readsCompared 51 = .ok (.iconst (-1), 1) := by decide +kernel
theorem dX12_readsCompared_52 : decode cX12_readsCompared 52 = .ok (.istore_n 1, 1) := by decide +kernel
theorem dX12_readsCompared_53 : decode cX12_readsCompared 53 = .ok (.iload_n 1, 1) := by decide +kernel
theorem dX12_readsCompared_54 : decode cX12_readsCompared 54 = .ok (.iconst (-1), 1) := by decide +kernel
theorem dX12_readsCompared_55 : decode cX12_readsCompared 55 = .ok (.if_icmp .ne 13, 3) := by decide +kernel
theorem dX12_readsCompared_58 : decode cX12_readsCompared 58 = .ok (.aload_n 0, 1) := by decide +kernel
theorem dX12_readsCompared_59 : decode cX12_readsCompared 59 = .ok (.iconst 1, 1) := by decide +kernel
theorem dX12_readsCompared_60 : decode cX12_readsCompared 60 = .ok (.aload_n 0, 1) := by decide +kernel
theorem dX12_readsCompared_61 : decode cX12_readsCompared 61 = .ok (.getfield 148, 3) := by decide +kernel
theorem dX12_readsCompared_64 : decode cX12_readsCompared 64 = .ok (.invokevirtual 161, 3) := by decide +kernel
theorem dX12_readsCompared_67 : decode cX12_readsCompared 67 = .ok (.ireturn, 1) := by decide +kernel
theorem dX12_readsCompared_68 : decode cX12_readsCompared 68 = .ok (.aload_n 0, 1) := by decide +kernel
theorem dX12_readsCompared_69 : decode cX12_readsCompared 69 = .ok (.aload_n 0, 1) := by decide +kernel
theorem dX12_readsCompared_70 : decode cX12_readsCompared 70 = .ok (.getfield 148, 3) := by decide +kernel
theorem dX12_readsCompared_73 : decode cX12_readsCompared 73 = .ok (.iconst 1, 1) := by decide +kernel
theorem dX12_readsCompared_74 : decode cX12_readsCompared 74 = .ok (.iadd, 1) := by decide +kernel
theorem dX12_readsCompared_75 : decode cX12_readsCompared 75 = .ok (.putfield 148, 3) := by decide +kernel
theorem dX12_readsCompared_78 : decode cX12_readsCompared 78 = .ok (.aload_n 0, 1) := by decide +kernel
theorem dX12_readsCompared_79 : decode cX12_readsCompared 79 = .ok (.invokevirtual 212, 3) := by decide +kernel
theorem dX12_readsCompared_82 : decode cX12_readsCompared 82 = .ok (.ifCond .ne 5, 3) := by decide +kernel
theorem dX12_readsCompared_85 : decode cX12_readsCompared 85 = .ok (.iconst 0, 1) := by decide +kernel
theorem dX12_readsCompared_86 : decode cX12_readsCompared 86 = .ok (.ireturn, 1) := by decide +kernel
theorem dX12_readsCompared_87 : decode cX12_readsCompared 87 = .ok (.aload_n 0, 1) := by decide +kernel
theorem dX12_readsCompared_88 : decode cX12_readsCompared 88 = .ok (.iload_n 1, 1) := by decide +kernel
theorem dX12_readsCompared_89 : decode cX12_readsCompared 89 = .ok (.iconst 0, 1) := by decide +kernel
theorem dX12_readsCompared_90 : decode cX12_readsCompared 90 = .ok (.invokevirtual 185, 3) := by decide +kernel
theorem dX12_readsCompared_93 : decode cX12_readsCompared 93 = .ok (.aload_n 0, 1) := by decide +kernel
theorem dX12_readsCompared_94 : decode cX12_readsCompared 94 = .ok (.invokevirtual 215, 3) := by decide +kernel
theorem dX12_readsCompared_97 : decode cX12_readsCompared 97 = .ok (.iconst 1, 1) := by decide +kernel
theorem dX12_readsCompared_98 : decode cX12_readsCompared 98 = .ok (.ireturn, 1) := by decide +kernel
theorem dX12_hasOpen_0 : decode cX12_hasOpen 0 = .ok (.iconst 0, 1) := by decide +kernel
theorem dX12_hasOpen_1 : decode cX12_hasOpen 1 = .ok (.istore_n 1, 1) := by decide +kernel
theorem dX12_hasOpen_2 : decode cX12_hasOpen 2 = .ok (.iload_n 1, 1) := by decide +kernel
theorem dX12_hasOpen_3 : decode cX12_hasOpen 3 = .ok (.aload_n 0, 1) := by decide +kernel
theorem dX12_hasOpen_4 : decode cX12_hasOpen 4 = .ok (.getfield 179, 3) := by decide +kernel
theorem dX12_hasOpen_7 : decode cX12_hasOpen 7 = .ok (.if_icmp .ge 25, 3) := by decide +kernel
theorem dX12_hasOpen_10 : decode cX12_hasOpen 10 = .ok (.aload_n 0, 1) := by decide +kernel
theorem dX12_hasOpen_11 : decode cX12_hasOpen 11 = .ok (.getfield 26, 3) := by decide +kernel
theorem dX12_hasOpen_14 : decode cX12_hasOpen 14 = .ok (.iload_n 1, 1) := by decide +kernel
theorem dX12_hasOpen_15 : decode cX12_hasOpen 15 = .ok (.iaload, 1) := by decide +kernel
theorem dX12_hasOpen_16 : decode cX12_hasOpen 16 = .ok (.ldc 175, 2) := by decide +kernel
theorem dX12_hasOpen_18 : decode cX12_hasOpen 18 = .ok (.idiv, 1) := by decide +kernel
theorem dX12_hasOpen_19 : decode cX12_hasOpen 19 = .ok (.bipush 13, 2) := by decide +kernel
theorem dX12_hasOpen_21 : decode cX12_hasOpen 21 = .ok (.if_icmp .ne 5, 3) := by decide +kernel
theorem dX12_hasOpen_24 : decode cX12_hasOpen 24 = .ok (.iconst 1, 1) := by decide +kernel
theorem dX12_hasOpen_25 : decode cX12_hasOpen 25 = .ok (.ireturn, 1) := by decide +kernel
theorem dX12_hasOpen_26 : decode cX12_hasOpen 26 = .ok (.iinc 1 1, 3) := by decide +kernel
theorem dX12_hasOpen_29 : decode cX12_hasOpen 29 = .ok (.goto (-27), 3) := by decide +kernel
theorem dX12_hasOpen_32 : decode cX12_hasOpen 32 = .ok (.iconst 0, 1) := by decide +kernel
theorem dX12_hasOpen_33 : decode cX12_hasOpen 33 = .ok (.ireturn, 1) := by decide +kernel
theorem dX12_readsSpec_0 : decode cX12_readsSpec 0 = .ok (.aload_n 0, 1) := by decide +kernel
theorem dX12_readsSpec_1 : decode cX12_readsSpec 1 = .ok (.iconst 0, 1) := by decide +kernel
theorem dX12_readsSpec_2 : decode cX12_readsSpec 2 = .ok (.putfield 176, 3) := by decide +kernel
theorem dX12_readsSpec_5 : decode cX12_readsSpec 5 = .ok (.aload_n 0, 1) := by decide +kernel
theorem dX12_readsSpec_6 : decode cX12_readsSpec 6 = .ok (.iconst 0, 1) := by decide +kernel
theorem dX12_readsSpec_7 : decode cX12_readsSpec 7 = .ok (.putfield 179, 3) := by decide +kernel
theorem dX12_readsSpec_10 : decode cX12_readsSpec 10 = .ok (.aload_n 0, 1) := by decide +kernel
theorem dX12_readsSpec_11 : decode cX12_readsSpec 11 = .ok (.invokevirtual 154, 3) := by decide +kernel
theorem dX12_readsSpec_14 : decode cX12_readsSpec 14 = .ok (.bipush 33, 2) := by decide +kernel
theorem dX12_readsSpec_16 : decode cX12_readsSpec 16 = .ok (.if_icmp .eq 12, 3) := by decide +kernel
theorem dX12_readsSpec_19 : decode cX12_readsSpec 19 = .ok (.aload_n 0, 1) := by decide +kernel
theorem dX12_readsSpec_20 : decode cX12_readsSpec 20 = .ok (.invokevirtual 154, 3) := by decide +kernel
theorem dX12_readsSpec_23 : decode cX12_readsSpec 23 = .ok (.bipush 40, 2) := by decide +kernel
theorem dX12_readsSpec_25 : decode cX12_readsSpec 25 = .ok (.if_icmp .ne 28, 3) := by decide +kernel
theorem dX12_readsSpec_28 : decode cX12_readsSpec 28 = .ok (.aload_n 0, 1) := by decide +kernel
theorem dX12_readsSpec_29 : decode cX12_readsSpec 29 = .ok (.aload_n 0, 1) := by decide +kernel
theorem dX12_readsSpec_30 : decode cX12_readsSpec 30 = .ok (.invokevirtual 154, 3) := by decide +kernel
theorem dX12_readsSpec_33 : decode cX12_readsSpec 33 = .ok (.bipush 33, 2) := by decide +kernel
theorem dX12_readsSpec_35 : decode cX12_readsSpec 35 = .ok (.if_icmp .ne 8, 3) := by decide +kernel
theorem dX12_readsSpec_38 : decode cX12_readsSpec 38 = .ok (.bipush 10, 2) := by decide +kernel
theorem dX12_readsSpec_40 : decode cX12_readsSpec 40 = .ok (.goto 5, 3) := by decide +kernel
theorem dX12_readsSpec_43 : decode cX12_readsSpec 43 = .ok (.bipush 13, 2) := by decide +kernel
theorem dX12_readsSpec_45 : decode cX12_readsSpec 45 = .ok (.invokevirtual 189, 3) := by decide +kernel
theorem dX12_readsSpec_48 : decode cX12_readsSpec 48 = .ok (.ifCond .ne (-38), 3) := by decide +kernel
theorem dX12_readsSpec_51 : decode cX12_readsSpec 51 = .ok (.iconst 0, 1) := by decide +kernel
theorem dX12_readsSpec_52 : decode cX12_readsSpec 52 = .ok (.ireturn, 1) := by decide +kernel
theorem dX12_readsSpec_53 : decode cX12_readsSpec 53 = .ok (.aload_n 0, 1) := by decide +kernel
theorem dX12_readsSpec_54 : decode cX12_readsSpec 54 = .ok (.invokevirtual 218, 3) := by decide +kernel
theorem dX12_readsSpec_57 : decode cX12_readsSpec 57 = .ok (.ifCond .ne 5, 3) := by decide +kernel
theorem dX12_readsSpec_60 : decode cX12_readsSpec 60 = .ok (.iconst 0, 1) := by decide +kernel
theorem dX12_readsSpec_61 : decode cX12_readsSpec 61 = .ok (.ireturn, 1) := by decide +kernel
theorem dX12_readsSpec_62 : decode cX12_readsSpec 62 = .ok (.aload_n 0, 1) := by decide +kernel
theorem dX12_readsSpec_63 : decode cX12_readsSpec 63 = .ok (.invokevirtual 154, 3) := by decide +kernel
theorem dX12_readsSpec_66 : decode cX12_readsSpec 66 = .ok (.bipush 41, 2) := by decide +kernel
theorem dX12_readsSpec_68 : decode cX12_readsSpec 68 = .ok (.if_icmp .ne 52, 3) := by decide +kernel
theorem dX12_readsSpec_71 : decode cX12_readsSpec 71 = .ok (.aload_n 0, 1) := by decide +kernel
theorem dX12_readsSpec_72 : decode cX12_readsSpec 72 = .ok (.invokevirtual 221, 3) := by decide +kernel
theorem dX12_readsSpec_75 : decode cX12_readsSpec 75 = .ok (.ifCond .eq 45, 3) := by decide +kernel
theorem dX12_readsSpec_78 : decode cX12_readsSpec 78 = .ok (.aload_n 0, 1) := by decide +kernel
theorem dX12_readsSpec_79 : decode cX12_readsSpec 79 = .ok (.iconst 1, 1) := by decide +kernel
theorem dX12_readsSpec_80 : decode cX12_readsSpec 80 = .ok (.invokevirtual 224, 3) := by decide +kernel
theorem dX12_readsSpec_83 : decode cX12_readsSpec 83 = .ok (.aload_n 0, 1) := by decide +kernel
theorem dX12_readsSpec_84 : decode cX12_readsSpec 84 = .ok (.aload_n 0, 1) := by decide +kernel
theorem dX12_readsSpec_85 : decode cX12_readsSpec 85 = .ok (.getfield 179, 3) := by decide +kernel
theorem dX12_readsSpec_88 : decode cX12_readsSpec 88 = .ok (.iconst 1, 1) := by decide +kernel
theorem dX12_readsSpec_89 : decode cX12_readsSpec 89 = .ok (.isub, 1) := by decide +kernel
theorem dX12_readsSpec_90 : decode cX12_readsSpec 90 = .ok (.putfield 179, 3) := by decide +kernel
theorem dX12_readsSpec_93 : decode cX12_readsSpec 93 = .ok (.aload_n 0, 1) := by decide +kernel
theorem dX12_readsSpec_94 : decode cX12_readsSpec 94 = .ok (.aload_n 0, 1) := by decide +kernel
theorem dX12_readsSpec_95 : decode cX12_readsSpec 95 = .ok (.getfield 176, 3) := by decide +kernel
theorem dX12_readsSpec_98 : decode cX12_readsSpec 98 = .ok (.iconst 1, 1) := by decide +kernel
theorem dX12_readsSpec_99 : decode cX12_readsSpec 99 = .ok (.isub, 1) := by decide +kernel
theorem dX12_readsSpec_100 : decode cX12_readsSpec 100 = .ok (.putfield 176, 3) := by decide +kernel
theorem dX12_readsSpec_103 : decode cX12_readsSpec 103 = .ok (.aload_n 0, 1) := by decide +kernel
theorem dX12_readsSpec_104 : decode cX12_readsSpec 104 = .ok (.aload_n 0, 1) := by decide +kernel
theorem dX12_readsSpec_105 : decode cX12_readsSpec 105 = .ok (.getfield 148, 3) := by decide +kernel
theorem dX12_readsSpec_108 : decode cX12_readsSpec 108 = .ok (.iconst 1, 1) := by decide +kernel
theorem dX12_readsSpec_109 : decode cX12_readsSpec 109 = .ok (.iadd, 1) := by decide +kernel
theorem dX12_readsSpec_110 : decode cX12_readsSpec 110 = .ok (.putfield 148, 3) := by decide +kernel
theorem dX12_readsSpec_113 : decode cX12_readsSpec 113 = .ok (.aload_n 0, 1) := by decide +kernel
theorem dX12_readsSpec_114 : decode cX12_readsSpec 114 = .ok (.invokevirtual 215, 3) := by decide +kernel
theorem dX12_readsSpec_117 : decode cX12_readsSpec 117 = .ok (.goto (-55), 3) := by decide +kernel
theorem dX12_readsSpec_120 : decode cX12_readsSpec 120 = .ok (.aload_n 0, 1) := by decide +kernel
theorem dX12_readsSpec_121 : decode cX12_readsSpec 121 = .ok (.getfield 148, 3) := by decide +kernel
theorem dX12_readsSpec_124 : decode cX12_readsSpec 124 = .ok (.aload_n 0, 1) := by decide +kernel
theorem dX12_readsSpec_125 : decode cX12_readsSpec 125 = .ok (.getfield 151, 3) := by decide +kernel
theorem dX12_readsSpec_128 : decode cX12_readsSpec 128 = .ok (.if_icmp .ne 17, 3) := by decide +kernel
theorem dX12_readsSpec_131 : decode cX12_readsSpec 131 = .ok (.aload_n 0, 1) := by decide +kernel
theorem dX12_readsSpec_132 : decode cX12_readsSpec 132 = .ok (.invokevirtual 221, 3) := by decide +kernel
theorem dX12_readsSpec_135 : decode cX12_readsSpec 135 = .ok (.ifCond .ne 10, 3) := by decide +kernel
theorem dX12_readsSpec_138 : decode cX12_readsSpec 138 = .ok (.aload_n 0, 1) := by decide +kernel
theorem dX12_readsSpec_139 : decode cX12_readsSpec 139 = .ok (.iconst 1, 1) := by decide +kernel
theorem dX12_readsSpec_140 : decode cX12_readsSpec 140 = .ok (.invokevirtual 224, 3) := by decide +kernel
theorem dX12_readsSpec_143 : decode cX12_readsSpec 143 = .ok (.iconst 1, 1) := by decide +kernel
theorem dX12_readsSpec_144 : decode cX12_readsSpec 144 = .ok (.ireturn, 1) := by decide +kernel
theorem dX12_readsSpec_145 : decode cX12_readsSpec 145 = .ok (.aload_n 0, 1) := by decide +kernel
theorem dX12_readsSpec_146 : decode cX12_readsSpec 146 = .ok (.invokevirtual 154, 3) := by decide +kernel
theorem dX12_readsSpec_149 : decode cX12_readsSpec 149 = .ok (.bipush 38, 2) := by decide +kernel
theorem dX12_readsSpec_151 : decode cX12_readsSpec 151 = .ok (.if_icmp .eq 22, 3) := by decide +kernel
theorem dX12_readsSpec_154 : decode cX12_readsSpec 154 = .ok (.aload_n 0, 1) := by decide +kernel
theorem dX12_readsSpec_155 : decode cX12_readsSpec 155 = .ok (.invokevirtual 154, 3) := by decide +kernel
theorem dX12_readsSpec_158 : decode cX12_readsSpec 158 = .ok (.bipush 124, 2) := by decide +kernel
theorem dX12_readsSpec_160 : decode cX12_readsSpec 160 = .ok (.if_icmp .eq 13, 3) := by decide +kernel
theorem dX12_readsSpec_163 : decode cX12_readsSpec 163 = .ok (.aload_n 0, 1) := by decide +kernel
theorem dX12_readsSpec_164 : decode cX12_readsSpec 164 = .ok (.iconst 1, 1) := by decide +kernel
theorem dX12_readsSpec_165 : decode cX12_readsSpec 165 = .ok (.aload_n 0, 1) := by decide +kernel
theorem dX12_readsSpec_166 : decode cX12_readsSpec 166 = .ok (.getfield 148, 3) := by decide +kernel
theorem dX12_readsSpec_169 : decode cX12_readsSpec 169 = .ok (.invokevirtual 161, 3) := by decide +kernel
theorem dX12_readsSpec_172 : decode cX12_readsSpec 172 = .ok (.ireturn, 1) := by decide +kernel
theorem dX12_readsSpec_173 : decode cX12_readsSpec 173 = .ok (.aload_n 0, 1) := by decide +kernel
theorem dX12_readsSpec_174 : decode cX12_readsSpec 174 = .ok (.aload_n 0, 1) := by decide +kernel
theorem dX12_readsSpec_175 : decode cX12_readsSpec 175 = .ok (.invokevirtual 154, 3) := by decide +kernel
theorem dX12_readsSpec_178 : decode cX12_readsSpec 178 = .ok (.bipush 124, 2) := by decide +kernel
theorem dX12_readsSpec_180 : decode cX12_readsSpec 180 = .ok (.if_icmp .ne 7, 3) := by decide +kernel
theorem dX12_readsSpec_183 : decode cX12_readsSpec 183 = .ok (.iconst 1, 1) := by decide +kernel
theorem dX12_readsSpec_184 : decode cX12_readsSpec 184 = .ok (.goto 4, 3) := by decide +kernel
theorem dX12_readsSpec_187 : decode cX12_readsSpec 187 = .ok (.iconst 0, 1) := by decide +kernel
theorem dX12_readsSpec_188 : decode cX12_readsSpec 188 = .ok (.invokevirtual 224, 3) := by decide +kernel
theorem dX12_readsSpec_191 : decode cX12_readsSpec 191 = .ok (.aload_n 0, 1) := by decide +kernel
theorem dX12_readsSpec_192 : decode cX12_readsSpec 192 = .ok (.aload_n 0, 1) := by decide +kernel
theorem dX12_readsSpec_193 : decode cX12_readsSpec 193 = .ok (.invokevirtual 154, 3) := by decide +kernel
theorem dX12_readsSpec_196 : decode cX12_readsSpec 196 = .ok (.bipush 38, 2) := by decide +kernel
theorem dX12_readsSpec_198 : decode cX12_readsSpec 198 = .ok (.if_icmp .ne 8, 3) := by decide +kernel
theorem dX12_readsSpec_201 : decode cX12_readsSpec 201 = .ok (.bipush 11, 2) := by decide +kernel
theorem dX12_readsSpec_203 : decode cX12_readsSpec 203 = .ok (.goto 5, 3) := by decide +kernel
theorem dX12_readsSpec_206 : decode cX12_readsSpec 206 = .ok (.bipush 12, 2) := by decide +kernel
theorem dX12_readsSpec_208 : decode cX12_readsSpec 208 = .ok (.invokevirtual 227, 3) := by decide +kernel
theorem dX12_readsSpec_211 : decode cX12_readsSpec 211 = .ok (.goto (-201), 3) := by decide +kernel
theorem dX12_isText_0 : decode cX12_isText 0 = .ok (.iload_n 1, 1) := by decide +kernel
theorem dX12_isText_1 : decode cX12_isText 1 = .ok (.iconst 1, 1) := by decide +kernel
theorem dX12_isText_2 : decode cX12_isText 2 = .ok (.bipush 120, 2) := by decide +kernel
theorem dX12_isText_4 : decode cX12_isText 4 = .ok (.invokestatic 137, 3) := by decide +kernel
theorem dX12_isText_7 : decode cX12_isText 7 = .ok (.ifCond .eq 15, 3) := by decide +kernel
theorem dX12_isText_10 : decode cX12_isText 10 = .ok (.iload_n 1, 1) := by decide +kernel
theorem dX12_isText_11 : decode cX12_isText 11 = .ok (.aload_n 0, 1) := by decide +kernel
theorem dX12_isText_12 : decode cX12_isText 12 = .ok (.getfield 141, 3) := by decide +kernel
theorem dX12_isText_15 : decode cX12_isText 15 = .ok (.if_icmp .gt 7, 3) := by decide +kernel
theorem dX12_isText_18 : decode cX12_isText 18 = .ok (.iconst 1, 1) := by decide +kernel
theorem dX12_isText_19 : decode cX12_isText 19 = .ok (.goto 4, 3) := by decide +kernel
theorem dX12_isText_22 : decode cX12_isText 22 = .ok (.iconst 0, 1) := by decide +kernel
theorem dX12_isText_23 : decode cX12_isText 23 = .ok (.ireturn, 1) := by decide +kernel
theorem dX12_begins_0 : decode cX12_begins 0 = .ok (.aload_n 0, 1) := by decide +kernel
theorem dX12_begins_1 : decode cX12_begins 1 = .ok (.iconst 0, 1) := by decide +kernel
theorem dX12_begins_2 : decode cX12_begins 2 = .ok (.putfield 148, 3) := by decide +kernel
theorem dX12_begins_5 : decode cX12_begins 5 = .ok (.aload_n 0, 1) := by decide +kernel
theorem dX12_begins_6 : decode cX12_begins 6 = .ok (.iload_n 1, 1) := by decide +kernel
theorem dX12_begins_7 : decode cX12_begins 7 = .ok (.putfield 151, 3) := by decide +kernel
theorem dX12_begins_10 : decode cX12_begins 10 = .ok (.aload_n 0, 1) := by decide +kernel
theorem dX12_begins_11 : decode cX12_begins 11 = .ok (.iconst 0, 1) := by decide +kernel
theorem dX12_begins_12 : decode cX12_begins 12 = .ok (.putfield 172, 3) := by decide +kernel
theorem dX12_begins_15 : decode cX12_begins 15 = .ok (.return_, 1) := by decide +kernel
theorem dX12_spec_0 : decode cX12_spec 0 = .ok (.aload_n 0, 1) := by decide +kernel
theorem dX12_spec_1 : decode cX12_spec 1 = .ok (.iload_n 1, 1) := by decide +kernel
theorem dX12_spec_2 : decode cX12_spec 2 = .ok (.invokevirtual 230, 3) := by decide +kernel
theorem dX12_spec_5 : decode cX12_spec 5 = .ok (.ifCond .ne 5, 3) := by decide +kernel
theorem dX12_spec_8 : decode cX12_spec 8 = .ok (.iconst (-1), 1) := by decide +kernel
theorem dX12_spec_9 : decode cX12_spec 9 = .ok (.ireturn, 1) := by decide +kernel
theorem dX12_spec_10 : decode cX12_spec 10 = .ok (.aload_n 0, 1) := by decide +kernel
theorem dX12_spec_11 : decode cX12_spec 11 = .ok (.iload_n 1, 1) := by decide +kernel
theorem dX12_spec_12 : decode cX12_spec 12 = .ok (.invokevirtual 233, 3) := by decide +kernel
theorem dX12_spec_15 : decode cX12_spec 15 = .ok (.aload_n 0, 1) := by decide +kernel
theorem dX12_spec_16 : decode cX12_spec 16 = .ok (.invokevirtual 236, 3) := by decide +kernel
theorem dX12_spec_19 : decode cX12_spec 19 = .ok (.istore_n 2, 1) := by decide +kernel
theorem dX12_spec_20 : decode cX12_spec 20 = .ok (.aload_n 0, 1) := by decide +kernel
theorem dX12_spec_21 : decode cX12_spec 21 = .ok (.iconst 0, 1) := by decide +kernel
theorem dX12_spec_22 : decode cX12_spec 22 = .ok (.putfield 141, 3) := by decide +kernel
theorem dX12_spec_25 : decode cX12_spec 25 = .ok (.iload_n 2, 1) := by decide +kernel
theorem dX12_spec_26 : decode cX12_spec 26 = .ok (.ifCond .ne 8, 3) := by decide +kernel
theorem dX12_spec_29 : decode cX12_spec 29 = .ok (.aload_n 0, 1) := by decide +kernel
theorem dX12_spec_30 : decode cX12_spec 30 = .ok (.getfield 158, 3) := by decide +kernel
theorem dX12_spec_33 : decode cX12_spec 33 = .ok (.ireturn, 1) := by decide +kernel
theorem dX12_spec_34 : decode cX12_spec 34 = .ok (.aload_n 0, 1) := by decide +kernel
theorem dX12_spec_35 : decode cX12_spec 35 = .ok (.aload_n 0, 1) := by decide +kernel
theorem dX12_spec_36 : decode cX12_spec 36 = .ok (.getfield 172, 3) := by decide +kernel
theorem dX12_spec_39 : decode cX12_spec 39 = .ok (.putfield 239, 3) := by decide +kernel
theorem dX12_spec_42 : decode cX12_spec 42 = .ok (.iconst 0, 1) := by decide +kernel
theorem dX12_spec_43 : decode cX12_spec 43 = .ok (.istore_n 3, 1) := by decide +kernel
theorem dX12_spec_44 : decode cX12_spec 44 = .ok (.iload_n 3, 1) := by decide +kernel
theorem dX12_spec_45 : decode cX12_spec 45 = .ok (.aload_n 0, 1) := by decide +kernel
theorem dX12_spec_46 : decode cX12_spec 46 = .ok (.getfield 172, 3) := by decide +kernel
theorem dX12_spec_49 : decode cX12_spec 49 = .ok (.if_icmp .ge 21, 3) := by decide +kernel
theorem dX12_spec_52 : decode cX12_spec 52 = .ok (.aload_n 0, 1) := by decide +kernel
theorem dX12_spec_53 : decode cX12_spec 53 = .ok (.getfield 29, 3) := by decide +kernel
theorem dX12_spec_56 : decode cX12_spec 56 = .ok (.iload_n 3, 1) := by decide +kernel
theorem dX12_spec_57 : decode cX12_spec 57 = .ok (.aload_n 0, 1) := by decide +kernel
theorem dX12_spec_58 : decode cX12_spec 58 = .ok (.getfield 23, 3) := by decide +kernel
theorem dX12_spec_61 : decode cX12_spec 61 = .ok (.iload_n 3, 1) := by decide +kernel
theorem dX12_spec_62 : decode cX12_spec 62 = .ok (.iaload, 1) := by decide +kernel
theorem dX12_spec_63 : decode cX12_spec 63 = .ok (.iastore, 1) := by decide +kernel
theorem dX12_spec_64 : decode cX12_spec 64 = .ok (.iinc 3 1, 3) := by decide +kernel
theorem dX12_spec_67 : decode cX12_spec 67 = .ok (.goto (-23), 3) := by decide +kernel
theorem dX12_spec_70 : decode cX12_spec 70 = .ok (.iconst 1, 1) := by decide +kernel
theorem dX12_spec_71 : decode cX12_spec 71 = .ok (.ireturn, 1) := by decide +kernel
theorem dX12_reckon_0 : decode cX12_reckon 0 = .ok (.iload_n 0, 1) := by decide +kernel
theorem dX12_reckon_1 : decode cX12_reckon 1 = .ok (.tableswitch 85 2 8 #[43, 47, 51, 55, 59, 63, 74], 43) := by decide +kernel
theorem dX12_reckon_44 : decode cX12_reckon 44 = .ok (.iload_n 1, 1) := by decide +kernel
theorem dX12_reckon_45 : decode cX12_reckon 45 = .ok (.iload_n 2, 1) := by decide +kernel
theorem dX12_reckon_46 : decode cX12_reckon 46 = .ok (.iadd, 1) := by decide +kernel
theorem dX12_reckon_47 : decode cX12_reckon 47 = .ok (.ireturn, 1) := by decide +kernel
theorem dX12_reckon_48 : decode cX12_reckon 48 = .ok (.iload_n 1, 1) := by decide +kernel
theorem dX12_reckon_49 : decode cX12_reckon 49 = .ok (.iload_n 2, 1) := by decide +kernel
theorem dX12_reckon_50 : decode cX12_reckon 50 = .ok (.isub, 1) := by decide +kernel
theorem dX12_reckon_51 : decode cX12_reckon 51 = .ok (.ireturn, 1) := by decide +kernel
theorem dX12_reckon_52 : decode cX12_reckon 52 = .ok (.iload_n 1, 1) := by decide +kernel
theorem dX12_reckon_53 : decode cX12_reckon 53 = .ok (.iload_n 2, 1) := by decide +kernel
theorem dX12_reckon_54 : decode cX12_reckon 54 = .ok (.imul, 1) := by decide +kernel
theorem dX12_reckon_55 : decode cX12_reckon 55 = .ok (.ireturn, 1) := by decide +kernel
theorem dX12_reckon_56 : decode cX12_reckon 56 = .ok (.iload_n 1, 1) := by decide +kernel
theorem dX12_reckon_57 : decode cX12_reckon 57 = .ok (.iload_n 2, 1) := by decide +kernel
theorem dX12_reckon_58 : decode cX12_reckon 58 = .ok (.idiv, 1) := by decide +kernel
theorem dX12_reckon_59 : decode cX12_reckon 59 = .ok (.ireturn, 1) := by decide +kernel
theorem dX12_reckon_60 : decode cX12_reckon 60 = .ok (.iload_n 1, 1) := by decide +kernel
theorem dX12_reckon_61 : decode cX12_reckon 61 = .ok (.iload_n 2, 1) := by decide +kernel
theorem dX12_reckon_62 : decode cX12_reckon 62 = .ok (.irem, 1) := by decide +kernel
theorem dX12_reckon_63 : decode cX12_reckon 63 = .ok (.ireturn, 1) := by decide +kernel
theorem dX12_reckon_64 : decode cX12_reckon 64 = .ok (.iload_n 1, 1) := by decide +kernel
theorem dX12_reckon_65 : decode cX12_reckon 65 = .ok (.iload_n 2, 1) := by decide +kernel
theorem dX12_reckon_66 : decode cX12_reckon 66 = .ok (.if_icmp .ge 7, 3) := by decide +kernel
theorem dX12_reckon_69 : decode cX12_reckon 69 = .ok (.iconst 1, 1) := by decide +kernel
theorem dX12_reckon_70 : decode cX12_reckon 70 = .ok (.goto 4, 3) := by decide +kernel
theorem dX12_reckon_73 : decode cX12_reckon 73 = .ok (.iconst 0, 1) := by decide +kernel
theorem dX12_reckon_74 : decode cX12_reckon 74 = .ok (.ireturn, 1) := by decide +kernel
theorem dX12_reckon_75 : decode cX12_reckon 75 = .ok (.iload_n 1, 1) := by decide +kernel
theorem dX12_reckon_76 : decode cX12_reckon 76 = .ok (.iload_n 2, 1) := by decide +kernel
theorem dX12_reckon_77 : decode cX12_reckon 77 = .ok (.if_icmp .le 7, 3) := by decide +kernel
theorem dX12_reckon_80 : decode cX12_reckon 80 = .ok (.iconst 1, 1) := by decide +kernel
theorem dX12_reckon_81 : decode cX12_reckon 81 = .ok (.goto 4, 3) := by decide +kernel
theorem dX12_reckon_84 : decode cX12_reckon 84 = .ok (.iconst 0, 1) := by decide +kernel
theorem dX12_reckon_85 : decode cX12_reckon 85 = .ok (.ireturn, 1) := by decide +kernel
theorem dX12_reckon_86 : decode cX12_reckon 86 = .ok (.iload_n 1, 1) := by decide +kernel
theorem dX12_reckon_87 : decode cX12_reckon 87 = .ok (.iload_n 2, 1) := by decide +kernel
theorem dX12_reckon_88 : decode cX12_reckon 88 = .ok (.if_icmp .ne 7, 3) := by decide +kernel
theorem dX12_reckon_91 : decode cX12_reckon 91 = .ok (.iconst 1, 1) := by decide +kernel
theorem dX12_reckon_92 : decode cX12_reckon 92 = .ok (.goto 4, 3) := by decide +kernel
theorem dX12_reckon_95 : decode cX12_reckon 95 = .ok (.iconst 0, 1) := by decide +kernel
theorem dX12_reckon_96 : decode cX12_reckon 96 = .ok (.ireturn, 1) := by decide +kernel
theorem dX12_comesTo_0 : decode cX12_comesTo 0 = .ok (.iconst 0, 1) := by decide +kernel
theorem dX12_comesTo_1 : decode cX12_comesTo 1 = .ok (.istore_n 3, 1) := by decide +kernel
theorem dX12_comesTo_2 : decode cX12_comesTo 2 = .ok (.sipush 180, 3) := by decide +kernel
theorem dX12_comesTo_5 : decode cX12_comesTo 5 = .ok (.iload_n 1, 1) := by decide +kernel
theorem dX12_comesTo_6 : decode cX12_comesTo 6 = .ok (.sipush 180, 3) := by decide +kernel
theorem dX12_comesTo_9 : decode cX12_comesTo 9 = .ok (.idiv, 1) := by decide +kernel
theorem dX12_comesTo_10 : decode cX12_comesTo 10 = .ok (.imul, 1) := by decide +kernel
theorem dX12_comesTo_11 : decode cX12_comesTo 11 = .ok (.istore 4, 2) := by decide +kernel
theorem dX12_comesTo_13 : decode cX12_comesTo 13 = .ok (.iload_n 1, 1) := by decide +kernel
theorem dX12_comesTo_14 : decode cX12_comesTo 14 = .ok (.istore 5, 2) := by decide +kernel
theorem dX12_comesTo_16 : decode cX12_comesTo 16 = .ok (.iload 5, 2) := by decide +kernel
theorem dX12_comesTo_18 : decode cX12_comesTo 18 = .ok (.iload_n 2, 1) := by decide +kernel
theorem dX12_comesTo_19 : decode cX12_comesTo 19 = .ok (.if_icmp .ge 214, 3) := by decide +kernel
theorem dX12_comesTo_22 : decode cX12_comesTo 22 = .ok (.aload_n 0, 1) := by decide +kernel
theorem dX12_comesTo_23 : decode cX12_comesTo 23 = .ok (.getfield 29, 3) := by decide +kernel
theorem dX12_comesTo_26 : decode cX12_comesTo 26 = .ok (.iload 5, 2) := by decide +kernel
theorem dX12_comesTo_28 : decode cX12_comesTo 28 = .ok (.iaload, 1) := by decide +kernel
theorem dX12_comesTo_29 : decode cX12_comesTo 29 = .ok (.ldc 175, 2) := by decide +kernel
theorem dX12_comesTo_31 : decode cX12_comesTo 31 = .ok (.idiv, 1) := by decide +kernel
theorem dX12_comesTo_32 : decode cX12_comesTo 32 = .ok (.istore 6, 2) := by decide +kernel
theorem dX12_comesTo_34 : decode cX12_comesTo 34 = .ok (.aload_n 0, 1) := by decide +kernel
theorem dX12_comesTo_35 : decode cX12_comesTo 35 = .ok (.getfield 29, 3) := by decide +kernel
theorem dX12_comesTo_38 : decode cX12_comesTo 38 = .ok (.iload 5, 2) := by decide +kernel
theorem dX12_comesTo_40 : decode cX12_comesTo 40 = .ok (.iaload, 1) := by decide +kernel
theorem dX12_comesTo_41 : decode cX12_comesTo 41 = .ok (.ldc 175, 2) := by decide +kernel
theorem dX12_comesTo_43 : decode cX12_comesTo 43 = .ok (.irem, 1) := by decide +kernel
theorem dX12_comesTo_44 : decode cX12_comesTo 44 = .ok (.istore 7, 2) := by decide +kernel
theorem dX12_comesTo_46 : decode cX12_comesTo 46 = .ok (.iload 5, 2) := by decide +kernel
theorem dX12_comesTo_48 : decode cX12_comesTo 48 = .ok (.iconst 1, 1) := by decide +kernel
theorem dX12_comesTo_49 : decode cX12_comesTo 49 = .ok (.iadd, 1) := by decide +kernel
theorem dX12_comesTo_50 : decode cX12_comesTo 50 = .ok (.istore 5, 2) := by decide +kernel
theorem dX12_comesTo_52 : decode cX12_comesTo 52 = .ok (.iload 6, 2) := by decide +kernel
theorem dX12_comesTo_54 : decode cX12_comesTo 54 = .ok (.ifCond .eq 9, 3) := by decide +kernel
theorem dX12_comesTo_57 : decode cX12_comesTo 57 = .ok (.iload 6, 2) := by decide +kernel
theorem dX12_comesTo_59 : decode cX12_comesTo 59 = .ok (.iconst 1, 1) := by decide +kernel
theorem dX12_comesTo_60 : decode cX12_comesTo 60 = .ok (.if_icmp .ne 33, 3) := by decide +kernel
theorem dX12_comesTo_63 : decode cX12_comesTo 63 = .ok (.aload_n 0, 1) := by decide +kernel
theorem dX12_comesTo_64 : decode cX12_comesTo 64 = .ok (.getfield 32, 3) := by decide +kernel
theorem dX12_comesTo_67 : decode cX12_comesTo 67 = .ok (.iload_n 3, 1) := by decide +kernel
theorem dX12_comesTo_68 : decode cX12_comesTo 68 = .ok (.iload 6, 2) := by decide +kernel
theorem dX12_comesTo_70 : decode cX12_comesTo 70 = .ok (.ifCond .ne 8, 3) := by decide +kernel
theorem dX12_comesTo_73 : decode cX12_comesTo 73 = .ok (.iload 7, 2) := by decide +kernel
theorem dX12_comesTo_75 : decode cX12_comesTo 75 = .ok (.goto 10, 3) := by decide +kernel
theorem dX12_comesTo_78 : decode cX12_comesTo 78 = .ok (.aload_n 0, 1) := by decide +kernel
theorem dX12_comesTo_79 : decode cX12_comesTo 79 = .ok (.getfield 35, 3) := by decide +kernel
theorem dX12_comesTo_82 : decode cX12_comesTo 82 = .ok (.iload 7, 2) := by decide +kernel
theorem dX12_comesTo_84 : decode cX12_comesTo 84 = .ok (.iaload, 1) := by decide +kernel
theorem dX12_comesTo_85 : decode cX12_comesTo 85 = .ok (.iastore, 1) := by decide +kernel
theorem dX12_comesTo_86 : decode cX12_comesTo 86 = .ok (.iload_n 3, 1) := by decide +kernel
theorem dX12_comesTo_87 : decode cX12_comesTo 87 = .ok (.iconst 1, 1) := by decide +kernel
theorem dX12_comesTo_88 : decode cX12_comesTo 88 = .ok (.iadd, 1) := by decide +kernel
theorem dX12_comesTo_89 : decode cX12_comesTo 89 = .ok (.istore_n 3, 1) := by decide +kernel
theorem dX12_comesTo_90 : decode cX12_comesTo 90 = .ok (.goto 140, 3) := by decide +kernel
theorem dX12_comesTo_93 : decode cX12_comesTo 93 = .ok (.iload 6, 2) := by decide +kernel
theorem dX12_comesTo_95 : decode cX12_comesTo 95 = .ok (.bipush 10, 2) := by decide +kernel
theorem dX12_comesTo_97 : decode cX12_comesTo 97 = .ok (.if_icmp .ne 24, 3) := by decide +kernel
theorem dX12_comesTo_100 : decode cX12_comesTo 100 = .ok (.aload_n 0, 1) := by decide +kernel
theorem dX12_comesTo_101 : decode cX12_comesTo 101 = .ok (.getfield 32, 3) := by decide +kernel
theorem dX12_comesTo_104 : decode cX12_comesTo 104 = .ok (.iload_n 3, 1) := by decide +kernel
theorem dX12_comesTo_105 : decode cX12_comesTo 105 = .ok (.iconst 1, 1) := by decide +kernel
theorem dX12_comesTo_106 : decode cX12_comesTo 106 = .ok (.isub, 1) := by decide +kernel
theorem dX12_comesTo_107 : decode cX12_comesTo 107 = .ok (.iconst 1, 1) := by decide +kernel
theorem dX12_comesTo_108 : decode cX12_comesTo 108 = .ok (.aload_n 0, 1) := by decide +kernel
theorem dX12_comesTo_109 : decode cX12_comesTo 109 = .ok (.getfield 32, 3) := by decide +kernel
theorem dX12_comesTo_112 : decode cX12_comesTo 112 = .ok (.iload_n 3, 1) := by decide +kernel
theorem dX12_comesTo_113 : decode cX12_comesTo 113 = .ok (.iconst 1, 1) := by decide +kernel
theorem dX12_comesTo_114 : decode cX12_comesTo 114 = .ok (.isub, 1) := by decide +kernel
theorem dX12_comesTo_115 : decode cX12_comesTo 115 = .ok (.iaload, 1) := by decide +kernel
theorem dX12_comesTo_116 : decode cX12_comesTo 116 = .ok (.isub, 1) := by decide +kernel
theorem dX12_comesTo_117 : decode cX12_comesTo 117 = .ok (.iastore, 1) := by decide +kernel
theorem dX12_comesTo_118 : decode cX12_comesTo 118 = .ok (.goto 112, 3) := by decide +kernel
theorem dX12_comesTo_121 : decode cX12_comesTo 121 = .ok (.iload 6, 2) := by decide +kernel
theorem dX12_comesTo_123 : decode cX12_comesTo 123 = .ok (.bipush 11, 2) := by decide +kernel
theorem dX12_comesTo_125 : decode cX12_comesTo 125 = .ok (.if_icmp .eq 10, 3) := by decide +kernel
theorem dX12_comesTo_128 : decode cX12_comesTo 128 = .ok (.iload 6, 2) := by decide +kernel
theorem dX12_comesTo_130 : decode cX12_comesTo 130 = .ok (.bipush 12, 2) := by decide +kernel
theorem dX12_comesTo_132 : decode cX12_comesTo 132 = .ok (.if_icmp .ne 43, 3) := by decide +kernel
theorem dX12_comesTo_135 : decode cX12_comesTo 135 = .ok (.aload_n 0, 1) := by decide +kernel
theorem dX12_comesTo_136 : decode cX12_comesTo 136 = .ok (.getfield 32, 3) := by decide +kernel
theorem dX12_comesTo_139 : decode cX12_comesTo 139 = .ok (.iload_n 3, 1) := by decide +kernel
theorem dX12_comesTo_140 : decode cX12_comesTo 140 = .ok (.iconst 1, 1) := by decide +kernel
theorem dX12_comesTo_141 : decode cX12_comesTo 141 = .ok (.isub, 1) := by decide +kernel
theorem dX12_comesTo_142 : decode cX12_comesTo 142 = .ok (.iaload, 1) := by decide +kernel
theorem dX12_comesTo_143 : decode cX12_comesTo 143 = .ok (.iload 6, 2) := by decide +kernel
theorem dX12_comesTo_145 : decode cX12_comesTo 145 = .ok (.bipush 12, 2) := by decide +kernel
theorem dX12_comesTo_147 : decode cX12_comesTo 147 = .ok (.if_icmp .ne 7, 3) := by decide +kernel
theorem dX12_comesTo_150 : decode cX12_comesTo 150 = .ok (.iconst 1, 1) := by decide +kernel
theorem dX12_comesTo_151 : decode cX12_comesTo 151 = .ok (.goto 4, 3) := by decide +kernel
theorem dX12_comesTo_154 : decode cX12_comesTo 154 = .ok (.iconst 0, 1) := by decide +kernel
theorem dX12_comesTo_155 : decode cX12_comesTo 155 = .ok (.if_icmp .ne 13, 3) := by decide +kernel
theorem dX12_comesTo_158 : decode cX12_comesTo 158 = .ok (.iload 4, 2) := by decide +kernel
theorem dX12_comesTo_160 : decode cX12_comesTo 160 = .ok (.iload 7, 2) := by decide +kernel
theorem dX12_comesTo_162 : decode cX12_comesTo 162 = .ok (.iadd, 1) := by decide +kernel
theorem dX12_comesTo_163 : decode cX12_comesTo 163 = .ok (.istore 5, 2) := by decide +kernel
theorem dX12_comesTo_165 : decode cX12_comesTo 165 = .ok (.goto 65, 3) := by decide +kernel
theorem dX12_comesTo_168 : decode cX12_comesTo 168 = .ok (.iload_n 3, 1) := by decide +kernel
theorem dX12_comesTo_169 : decode cX12_comesTo 169 = .ok (.iconst 1, 1) := by decide +kernel
theorem dX12_comesTo_170 : decode cX12_comesTo 170 = .ok (.isub, 1) := by decide +kernel
theorem dX12_comesTo_171 : decode cX12_comesTo 171 = .ok (.istore_n 3, 1) := by decide +kernel
theorem dX12_comesTo_172 : decode cX12_comesTo 172 = .ok (.goto 58, 3) := by decide +kernel
theorem dX12_comesTo_175 : decode cX12_comesTo 175 = .ok (.iload_n 3, 1) := by decide +kernel
theorem dX12_comesTo_176 : decode cX12_comesTo 176 = .ok (.iconst 1, 1) := by decide +kernel
theorem dX12_comesTo_177 : decode cX12_comesTo 177 = .ok (.isub, 1) := by decide +kernel
theorem dX12_comesTo_178 : decode cX12_comesTo 178 = .ok (.istore_n 3, 1) := by decide +kernel
theorem dX12_comesTo_179 : decode cX12_comesTo 179 = .ok (.iload 6, 2) := by decide +kernel
theorem dX12_comesTo_181 : decode cX12_comesTo 181 = .ok (.iconst 5, 1) := by decide +kernel
theorem dX12_comesTo_182 : decode cX12_comesTo 182 = .ok (.if_icmp .eq 10, 3) := by decide +kernel
theorem dX12_comesTo_185 : decode cX12_comesTo 185 = .ok (.iload 6, 2) := by decide +kernel
theorem dX12_comesTo_187 : decode cX12_comesTo 187 = .ok (.bipush 6, 2) := by decide +kernel
theorem dX12_comesTo_189 : decode cX12_comesTo 189 = .ok (.if_icmp .ne 14, 3) := by decide +kernel
theorem dX12_comesTo_192 : decode cX12_comesTo 192 = .ok (.aload_n 0, 1) := by decide +kernel
theorem dX12_comesTo_193 : decode cX12_comesTo 193 = .ok (.getfield 32, 3) := by decide +kernel
theorem dX12_comesTo_196 : decode cX12_comesTo 196 = .ok (.iload_n 3, 1) := by decide +kernel
theorem dX12_comesTo_197 : decode cX12_comesTo 197 = .ok (.iaload, 1) := by decide +kernel
theorem dX12_comesTo_198 : decode cX12_comesTo 198 = .ok (.ifCond .ne 5, 3) := by decide +kernel
theorem dX12_comesTo_201 : decode cX12_comesTo 201 = .ok (.iconst 0, 1) := by decide +kernel
theorem dX12_comesTo_202 : decode cX12_comesTo 202 = .ok (.ireturn, 1) := by decide +kernel
theorem dX12_comesTo_203 : decode cX12_comesTo 203 = .ok (.aload_n 0, 1) := by decide +kernel
theorem dX12_comesTo_204 : decode cX12_comesTo 204 = .ok (.getfield 32, 3) := by decide +kernel
theorem dX12_comesTo_207 : decode cX12_comesTo 207 = .ok (.iload_n 3, 1) := by decide +kernel
theorem dX12_comesTo_208 : decode cX12_comesTo 208 = .ok (.iconst 1, 1) := by decide +kernel
theorem dX12_comesTo_209 : decode cX12_comesTo 209 = .ok (.isub, 1) := by decide +kernel
theorem dX12_comesTo_210 : decode cX12_comesTo 210 = .ok (.iload 6, 2) := by decide +kernel
theorem dX12_comesTo_212 : decode cX12_comesTo 212 = .ok (.aload_n 0, 1) := by decide +kernel
theorem dX12_comesTo_213 : decode cX12_comesTo 213 = .ok (.getfield 32, 3) := by decide +kernel
theorem dX12_comesTo_216 : decode cX12_comesTo 216 = .ok (.iload_n 3, 1) := by decide +kernel
theorem dX12_comesTo_217 : decode cX12_comesTo 217 = .ok (.iconst 1, 1) := by decide +kernel
theorem dX12_comesTo_218 : decode cX12_comesTo 218 = .ok (.isub, 1) := by decide +kernel
theorem dX12_comesTo_219 : decode cX12_comesTo 219 = .ok (.iaload, 1) := by decide +kernel
theorem dX12_comesTo_220 : decode cX12_comesTo 220 = .ok (.aload_n 0, 1) := by decide +kernel
theorem dX12_comesTo_221 : decode cX12_comesTo 221 = .ok (.getfield 32, 3) := by decide +kernel
theorem dX12_comesTo_224 : decode cX12_comesTo 224 = .ok (.iload_n 3, 1) := by decide +kernel
theorem dX12_comesTo_225 : decode cX12_comesTo 225 = .ok (.iaload, 1) := by decide +kernel
theorem dX12_comesTo_226 : decode cX12_comesTo 226 = .ok (.invokestatic 242, 3) := by decide +kernel
theorem dX12_comesTo_229 : decode cX12_comesTo 229 = .ok (.iastore, 1) := by decide +kernel
theorem dX12_comesTo_230 : decode cX12_comesTo 230 = .ok (.goto (-214), 3) := by decide +kernel
theorem dX12_comesTo_233 : decode cX12_comesTo 233 = .ok (.aload_n 0, 1) := by decide +kernel
theorem dX12_comesTo_234 : decode cX12_comesTo 234 = .ok (.getfield 32, 3) := by decide +kernel
theorem dX12_comesTo_237 : decode cX12_comesTo 237 = .ok (.iconst 0, 1) := by decide +kernel
theorem dX12_comesTo_238 : decode cX12_comesTo 238 = .ok (.iaload, 1) := by decide +kernel
theorem dX12_comesTo_239 : decode cX12_comesTo 239 = .ok (.ireturn, 1) := by decide +kernel
theorem dX12_puts_0 : decode cX12_puts 0 = .ok (.aload_n 0, 1) := by decide +kernel
theorem dX12_puts_1 : decode cX12_puts 1 = .ok (.getfield 38, 3) := by decide +kernel
theorem dX12_puts_4 : decode cX12_puts 4 = .ok (.aload_n 0, 1) := by decide +kernel
theorem dX12_puts_5 : decode cX12_puts 5 = .ok (.getfield 172, 3) := by decide +kernel
theorem dX12_puts_8 : decode cX12_puts 8 = .ok (.iload_n 1, 1) := by decide +kernel
theorem dX12_puts_9 : decode cX12_puts 9 = .ok (.iastore, 1) := by decide +kernel
theorem dX12_puts_10 : decode cX12_puts 10 = .ok (.aload_n 0, 1) := by decide +kernel
theorem dX12_puts_11 : decode cX12_puts 11 = .ok (.getfield 41, 3) := by decide +kernel
theorem dX12_puts_14 : decode cX12_puts 14 = .ok (.aload_n 0, 1) := by decide +kernel
theorem dX12_puts_15 : decode cX12_puts 15 = .ok (.getfield 172, 3) := by decide +kernel
theorem dX12_puts_18 : decode cX12_puts 18 = .ok (.iload_n 2, 1) := by decide +kernel
theorem dX12_puts_19 : decode cX12_puts 19 = .ok (.iastore, 1) := by decide +kernel
theorem dX12_puts_20 : decode cX12_puts 20 = .ok (.aload_n 0, 1) := by decide +kernel
theorem dX12_puts_21 : decode cX12_puts 21 = .ok (.getfield 44, 3) := by decide +kernel
theorem dX12_puts_24 : decode cX12_puts 24 = .ok (.aload_n 0, 1) := by decide +kernel
theorem dX12_puts_25 : decode cX12_puts 25 = .ok (.getfield 172, 3) := by decide +kernel
theorem dX12_puts_28 : decode cX12_puts 28 = .ok (.iload_n 3, 1) := by decide +kernel
theorem dX12_puts_29 : decode cX12_puts 29 = .ok (.iastore, 1) := by decide +kernel
theorem dX12_puts_30 : decode cX12_puts 30 = .ok (.aload_n 0, 1) := by decide +kernel
theorem dX12_puts_31 : decode cX12_puts 31 = .ok (.aload_n 0, 1) := by decide +kernel
theorem dX12_puts_32 : decode cX12_puts 32 = .ok (.getfield 172, 3) := by decide +kernel
theorem dX12_puts_35 : decode cX12_puts 35 = .ok (.iconst 1, 1) := by decide +kernel
theorem dX12_puts_36 : decode cX12_puts 36 = .ok (.iadd, 1) := by decide +kernel
theorem dX12_puts_37 : decode cX12_puts 37 = .ok (.putfield 172, 3) := by decide +kernel
theorem dX12_puts_40 : decode cX12_puts 40 = .ok (.return_, 1) := by decide +kernel
theorem dX12_takesVat_0 : decode cX12_takesVat 0 = .ok (.aload_n 0, 1) := by decide +kernel
theorem dX12_takesVat_1 : decode cX12_takesVat 1 = .ok (.aload_n 0, 1) := by decide +kernel
theorem dX12_takesVat_2 : decode cX12_takesVat 2 = .ok (.invokevirtual 154, 3) := by decide +kernel
theorem dX12_takesVat_5 : decode cX12_takesVat 5 = .ok (.bipush 97, 2) := by decide +kernel
theorem dX12_takesVat_7 : decode cX12_takesVat 7 = .ok (.isub, 1) := by decide +kernel
theorem dX12_takesVat_8 : decode cX12_takesVat 8 = .ok (.putfield 246, 3) := by decide +kernel
theorem dX12_takesVat_11 : decode cX12_takesVat 11 = .ok (.aload_n 0, 1) := by decide +kernel
theorem dX12_takesVat_12 : decode cX12_takesVat 12 = .ok (.getfield 246, 3) := by decide +kernel
theorem dX12_takesVat_15 : decode cX12_takesVat 15 = .ok (.invokestatic 133, 3) := by decide +kernel
theorem dX12_takesVat_18 : decode cX12_takesVat 18 = .ok (.ifCond .ne 13, 3) := by decide +kernel
theorem dX12_takesVat_21 : decode cX12_takesVat 21 = .ok (.aload_n 0, 1) := by decide +kernel
theorem dX12_takesVat_22 : decode cX12_takesVat 22 = .ok (.iconst 1, 1) := by decide +kernel
theorem dX12_takesVat_23 : decode cX12_takesVat 23 = .ok (.aload_n 0, 1) := by decide +kernel
theorem dX12_takesVat_24 : decode cX12_takesVat 24 = .ok (.getfield 148, 3) := by decide +kernel
theorem dX12_takesVat_27 : decode cX12_takesVat 27 = .ok (.invokevirtual 161, 3) := by decide +kernel
theorem dX12_takesVat_30 : decode cX12_takesVat 30 = .ok (.ireturn, 1) := by decide +kernel
theorem dX12_takesVat_31 : decode cX12_takesVat 31 = .ok (.aload_n 0, 1) := by decide +kernel
theorem dX12_takesVat_32 : decode cX12_takesVat 32 = .ok (.aload_n 0, 1) := by decide +kernel
theorem dX12_takesVat_33 : decode cX12_takesVat 33 = .ok (.getfield 148, 3) := by decide +kernel
theorem dX12_takesVat_36 : decode cX12_takesVat 36 = .ok (.iconst 1, 1) := by decide +kernel
theorem dX12_takesVat_37 : decode cX12_takesVat 37 = .ok (.iadd, 1) := by decide +kernel
theorem dX12_takesVat_38 : decode cX12_takesVat 38 = .ok (.putfield 148, 3) := by decide +kernel
theorem dX12_takesVat_41 : decode cX12_takesVat 41 = .ok (.iconst 1, 1) := by decide +kernel
theorem dX12_takesVat_42 : decode cX12_takesVat 42 = .ok (.ireturn, 1) := by decide +kernel
theorem dX12_opensActs_0 : decode cX12_opensActs 0 = .ok (.aload_n 0, 1) := by decide +kernel
theorem dX12_opensActs_1 : decode cX12_opensActs 1 = .ok (.invokevirtual 249, 3) := by decide +kernel
theorem dX12_opensActs_4 : decode cX12_opensActs 4 = .ok (.ifCond .ne 5, 3) := by decide +kernel
theorem dX12_opensActs_7 : decode cX12_opensActs 7 = .ok (.iconst 0, 1) := by decide +kernel
theorem dX12_opensActs_8 : decode cX12_opensActs 8 = .ok (.ireturn, 1) := by decide +kernel
theorem dX12_opensActs_9 : decode cX12_opensActs 9 = .ok (.aload_n 0, 1) := by decide +kernel
theorem dX12_opensActs_10 : decode cX12_opensActs 10 = .ok (.getfield 246, 3) := by decide +kernel
theorem dX12_opensActs_13 : decode cX12_opensActs 13 = .ok (.istore_n 2, 1) := by decide +kernel
theorem dX12_opensActs_14 : decode cX12_opensActs 14 = .ok (.aload_n 0, 1) := by decide +kernel
theorem dX12_opensActs_15 : decode cX12_opensActs 15 = .ok (.invokevirtual 154, 3) := by decide +kernel
theorem dX12_opensActs_18 : decode cX12_opensActs 18 = .ok (.bipush 40, 2) := by decide +kernel
theorem dX12_opensActs_20 : decode cX12_opensActs 20 = .ok (.if_icmp .eq 13, 3) := by decide +kernel
theorem dX12_opensActs_23 : decode cX12_opensActs 23 = .ok (.aload_n 0, 1) := by decide +kernel
theorem dX12_opensActs_24 : decode cX12_opensActs 24 = .ok (.iconst 1, 1) := by decide +kernel
theorem dX12_opensActs_25 : decode cX12_opensActs 25 = .ok (.aload_n 0, 1) := by decide +kernel
theorem dX12_opensActs_26 : decode cX12_opensActs 26 = .ok (.getfield 148, 3) := by decide +kernel
theorem dX12_opensActs_29 : decode cX12_opensActs 29 = .ok (.invokevirtual 161, 3) := by decide +kernel
theorem dX12_opensActs_32 : decode cX12_opensActs 32 = .ok (.ireturn, 1) := by decide +kernel
theorem dX12_opensActs_33 : decode cX12_opensActs 33 = .ok (.aload_n 0, 1) := by decide +kernel
theorem dX12_opensActs_34 : decode cX12_opensActs 34 = .ok (.getfield 252, 3) := by decide +kernel
theorem dX12_opensActs_37 : decode cX12_opensActs 37 = .ok (.bipush 6, 2) := by decide +kernel
theorem dX12_opensActs_39 : decode cX12_opensActs 39 = .ok (.if_icmp .ne 13, 3) := by decide +kernel
theorem dX12_opensActs_42 : decode cX12_opensActs 42 = .ok (.aload_n 0, 1) := by decide +kernel
theorem dX12_opensActs_43 : decode cX12_opensActs 43 = .ok (.iconst 5, 1) := by decide +kernel
theorem dX12_opensActs_44 : decode cX12_opensActs 44 = .ok (.aload_n 0, 1) := by decide +kernel
theorem dX12_opensActs_45 : decode cX12_opensActs 45 = .ok (.getfield 148, 3) := by decide +kernel
theorem dX12_opensActs_48 : decode cX12_opensActs 48 = .ok (.invokevirtual 161, 3) := by decide +kernel
theorem dX12_opensActs_51 : decode cX12_opensActs 51 = .ok (.ireturn, 1) := by decide +kernel
theorem dX12_opensActs_52 : decode cX12_opensActs 52 = .ok (.aload_n 0, 1) := by decide +kernel
theorem dX12_opensActs_53 : decode cX12_opensActs 53 = .ok (.aload_n 0, 1) := by decide +kernel
theorem dX12_opensActs_54 : decode cX12_opensActs 54 = .ok (.getfield 148, 3) := by decide +kernel
theorem dX12_opensActs_57 : decode cX12_opensActs 57 = .ok (.iconst 1, 1) := by decide +kernel
theorem dX12_opensActs_58 : decode cX12_opensActs 58 = .ok (.iadd, 1) := by decide +kernel
theorem dX12_opensActs_59 : decode cX12_opensActs 59 = .ok (.putfield 148, 3) := by decide +kernel
theorem dX12_opensActs_62 : decode cX12_opensActs 62 = .ok (.aload_n 0, 1) := by decide +kernel
theorem dX12_opensActs_63 : decode cX12_opensActs 63 = .ok (.getfield 62, 3) := by decide +kernel
theorem dX12_opensActs_66 : decode cX12_opensActs 66 = .ok (.aload_n 0, 1) := by decide +kernel
theorem dX12_opensActs_67 : decode cX12_opensActs 67 = .ok (.getfield 252, 3) := by decide +kernel
theorem dX12_opensActs_70 : decode cX12_opensActs 70 = .ok (.iload_n 1, 1) := by decide +kernel
theorem dX12_opensActs_71 : decode cX12_opensActs 71 = .ok (.iastore, 1) := by decide +kernel
theorem dX12_opensActs_72 : decode cX12_opensActs 72 = .ok (.aload_n 0, 1) := by decide +kernel
theorem dX12_opensActs_73 : decode cX12_opensActs 73 = .ok (.getfield 65, 3) := by decide +kernel
theorem dX12_opensActs_76 : decode cX12_opensActs 76 = .ok (.aload_n 0, 1) := by decide +kernel
theorem dX12_opensActs_77 : decode cX12_opensActs 77 = .ok (.getfield 252, 3) := by decide +kernel
theorem dX12_opensActs_80 : decode cX12_opensActs 80 = .ok (.aload_n 0, 1) := by decide +kernel
theorem dX12_opensActs_81 : decode cX12_opensActs 81 = .ok (.getfield 172, 3) := by decide +kernel
theorem dX12_opensActs_84 : decode cX12_opensActs 84 = .ok (.iastore, 1) := by decide +kernel
theorem dX12_opensActs_85 : decode cX12_opensActs 85 = .ok (.aload_n 0, 1) := by decide +kernel
theorem dX12_opensActs_86 : decode cX12_opensActs 86 = .ok (.aload_n 0, 1) := by decide +kernel
theorem dX12_opensActs_87 : decode cX12_opensActs 87 = .ok (.getfield 252, 3) := by decide +kernel
theorem dX12_opensActs_90 : decode cX12_opensActs 90 = .ok (.iconst 1, 1) := by decide +kernel
theorem dX12_opensActs_91 : decode cX12_opensActs 91 = .ok (.iadd, 1) := by decide +kernel
theorem dX12_opensActs_92 : decode cX12_opensActs 92 = .ok (.putfield 252, 3) := by decide +kernel
theorem dX12_opensActs_95 : decode cX12_opensActs 95 = .ok (.aload_n 0, 1) := by decide +kernel
theorem dX12_opensActs_96 : decode cX12_opensActs 96 = .ok (.iconst 4, 1) := by decide +kernel
theorem dX12_opensActs_97 : decode cX12_opensActs 97 = .ok (.iload_n 2, 1) := by decide +kernel
theorem dX12_opensActs_98 : decode cX12_opensActs 98 = .ok (.iconst 0, 1) := by decide +kernel
theorem dX12_opensActs_99 : decode cX12_opensActs 99 = .ok (.invokevirtual 255, 3) := by decide +kernel
theorem dX12_opensActs_102 : decode cX12_opensActs 102 = .ok (.iconst 1, 1) := by decide +kernel
theorem dX12_opensActs_103 : decode cX12_opensActs 103 = .ok (.ireturn, 1) := by decide +kernel
theorem dX12_readsTwo_0 : decode cX12_readsTwo 0 = .ok (.aload_n 0, 1) := by decide +kernel
theorem dX12_readsTwo_1 : decode cX12_readsTwo 1 = .ok (.invokevirtual 249, 3) := by decide +kernel
theorem dX12_readsTwo_4 : decode cX12_readsTwo 4 = .ok (.ifCond .ne 5, 3) := by decide +kernel
theorem dX12_readsTwo_7 : decode cX12_readsTwo 7 = .ok (.iconst 0, 1) := by decide +kernel
theorem dX12_readsTwo_8 : decode cX12_readsTwo 8 = .ok (.ireturn, 1) := by decide +kernel
theorem dX12_readsTwo_9 : decode cX12_readsTwo 9 = .ok (.aload_n 0, 1) := by decide +kernel
theorem dX12_readsTwo_10 : decode cX12_readsTwo 10 = .ok (.getfield 246, 3) := by decide +kernel
theorem dX12_readsTwo_13 : decode cX12_readsTwo 13 = .ok (.istore_n 2, 1) := by decide +kernel
theorem dX12_readsTwo_14 : decode cX12_readsTwo 14 = .ok (.aload_n 0, 1) := by decide +kernel
theorem dX12_readsTwo_15 : decode cX12_readsTwo 15 = .ok (.invokevirtual 249, 3) := by decide +kernel
theorem dX12_readsTwo_18 : decode cX12_readsTwo 18 = .ok (.ifCond .ne 5, 3) := by decide +kernel
theorem dX12_readsTwo_21 : decode cX12_readsTwo 21 = .ok (.iconst 0, 1) := by decide +kernel
theorem dX12_readsTwo_22 : decode cX12_readsTwo 22 = .ok (.ireturn, 1) := by decide +kernel
theorem dX12_readsTwo_23 : decode cX12_readsTwo 23 = .ok (.aload_n 0, 1) := by decide +kernel
theorem dX12_readsTwo_24 : decode cX12_readsTwo 24 = .ok (.iload_n 1, 1) := by decide +kernel
theorem dX12_readsTwo_25 : decode cX12_readsTwo 25 = .ok (.iload_n 2, 1) := by decide +kernel
theorem dX12_readsTwo_26 : decode cX12_readsTwo 26 = .ok (.aload_n 0, 1) := by decide +kernel
theorem dX12_readsTwo_27 : decode cX12_readsTwo 27 = .ok (.getfield 246, 3) := by decide +kernel
theorem dX12_readsTwo_30 : decode cX12_readsTwo 30 = .ok (.invokevirtual 255, 3) := by decide +kernel
theorem dX12_readsTwo_33 : decode cX12_readsTwo 33 = .ok (.iconst 1, 1) := by decide +kernel
theorem dX12_readsTwo_34 : decode cX12_readsTwo 34 = .ok (.ireturn, 1) := by decide +kernel
theorem dX12_readsOne_0 : decode cX12_readsOne 0 = .ok (.aload_n 0, 1) := by decide +kernel
theorem dX12_readsOne_1 : decode cX12_readsOne 1 = .ok (.invokevirtual 249, 3) := by decide +kernel
theorem dX12_readsOne_4 : decode cX12_readsOne 4 = .ok (.ifCond .ne 5, 3) := by decide +kernel
theorem dX12_readsOne_7 : decode cX12_readsOne 7 = .ok (.iconst 0, 1) := by decide +kernel
theorem dX12_readsOne_8 : decode cX12_readsOne 8 = .ok (.ireturn, 1) := by decide +kernel
theorem dX12_readsOne_9 : decode cX12_readsOne 9 = .ok (.aload_n 0, 1) := by decide +kernel
theorem dX12_readsOne_10 : decode cX12_readsOne 10 = .ok (.iload_n 1, 1) := by decide +kernel
theorem dX12_readsOne_11 : decode cX12_readsOne 11 = .ok (.aload_n 0, 1) := by decide +kernel
theorem dX12_readsOne_12 : decode cX12_readsOne 12 = .ok (.getfield 246, 3) := by decide +kernel
theorem dX12_readsOne_15 : decode cX12_readsOne 15 = .ok (.iconst 0, 1) := by decide +kernel
theorem dX12_readsOne_16 : decode cX12_readsOne 16 = .ok (.invokevirtual 255, 3) := by decide +kernel
theorem dX12_readsOne_19 : decode cX12_readsOne 19 = .ok (.iconst 1, 1) := by decide +kernel
theorem dX12_readsOne_20 : decode cX12_readsOne 20 = .ok (.ireturn, 1) := by decide +kernel
theorem dX12_readsAct_0 : decode cX12_readsAct 0 = .ok (.aload_n 0, 1) := by decide +kernel
theorem dX12_readsAct_1 : decode cX12_readsAct 1 = .ok (.invokevirtual 154, 3) := by decide +kernel
theorem dX12_readsAct_4 : decode cX12_readsAct 4 = .ok (.bipush 119, 2) := by decide +kernel
theorem dX12_readsAct_6 : decode cX12_readsAct 6 = .ok (.if_icmp .eq 12, 3) := by decide +kernel
theorem dX12_readsAct_9 : decode cX12_readsAct 9 = .ok (.aload_n 0, 1) := by decide +kernel
theorem dX12_readsAct_10 : decode cX12_readsAct 10 = .ok (.invokevirtual 154, 3) := by decide +kernel
theorem dX12_readsAct_13 : decode cX12_readsAct 13 = .ok (.bipush 105, 2) := by decide +kernel
theorem dX12_readsAct_15 : decode cX12_readsAct 15 = .ok (.if_icmp .ne 41, 3) := by decide +kernel
theorem dX12_readsAct_18 : decode cX12_readsAct 18 = .ok (.aload_n 0, 1) := by decide +kernel
theorem dX12_readsAct_19 : decode cX12_readsAct 19 = .ok (.invokevirtual 154, 3) := by decide +kernel
theorem dX12_readsAct_22 : decode cX12_readsAct 22 = .ok (.istore_n 1, 1) := by decide +kernel
theorem dX12_readsAct_23 : decode cX12_readsAct 23 = .ok (.aload_n 0, 1) := by decide +kernel
theorem dX12_readsAct_24 : decode cX12_readsAct 24 = .ok (.aload_n 0, 1) := by decide +kernel
theorem dX12_readsAct_25 : decode cX12_readsAct 25 = .ok (.getfield 148, 3) := by decide +kernel
theorem dX12_readsAct_28 : decode cX12_readsAct 28 = .ok (.iconst 1, 1) := by decide +kernel
theorem dX12_readsAct_29 : decode cX12_readsAct 29 = .ok (.iadd, 1) := by decide +kernel
theorem dX12_readsAct_30 : decode cX12_readsAct 30 = .ok (.putfield 148, 3) := by decide +kernel
theorem dX12_readsAct_33 : decode cX12_readsAct 33 = .ok (.aload_n 0, 1) := by decide +kernel
theorem dX12_readsAct_34 : decode cX12_readsAct 34 = .ok (.aload_n 0, 1) := by decide +kernel
theorem dX12_readsAct_35 : decode cX12_readsAct 35 = .ok (.getfield 259, 3) := by decide +kernel
theorem dX12_readsAct_38 : decode cX12_readsAct 38 = .ok (.iconst 1, 1) := by decide +kernel
theorem dX12_readsAct_39 : decode cX12_readsAct 39 = .ok (.iadd, 1) := by decide +kernel
theorem dX12_readsAct_40 : decode cX12_readsAct 40 = .ok (.putfield 259, 3) := by decide +kernel
theorem dX12_readsAct_43 : decode cX12_readsAct 43 = .ok (.aload_n 0, 1) := by decide +kernel
theorem dX12_readsAct_44 : decode cX12_readsAct 44 = .ok (.iload_n 1, 1) := by decide +kernel
theorem dX12_readsAct_45 : decode cX12_readsAct 45 = .ok (.invokevirtual 262, 3) := by decide +kernel
theorem dX12_readsAct_48 : decode cX12_readsAct 48 = .ok (.ifCond .ne 5, 3) := by decide +kernel
theorem dX12_readsAct_51 : decode cX12_readsAct 51 = .ok (.iconst 0, 1) := by decide +kernel
theorem dX12_readsAct_52 : decode cX12_readsAct 52 = .ok (.ireturn, 1) := by decide +kernel
theorem dX12_readsAct_53 : decode cX12_readsAct 53 = .ok (.goto (-53), 3) := by decide +kernel
theorem dX12_readsAct_56 : decode cX12_readsAct 56 = .ok (.aload_n 0, 1) := by decide +kernel
theorem dX12_readsAct_57 : decode cX12_readsAct 57 = .ok (.invokevirtual 154, 3) := by decide +kernel
theorem dX12_readsAct_60 : decode cX12_readsAct 60 = .ok (.istore_n 1, 1) := by decide +kernel
theorem dX12_readsAct_61 : decode cX12_readsAct 61 = .ok (.iload_n 1, 1) := by decide +kernel
theorem dX12_readsAct_62 : decode cX12_readsAct 62 = .ok (.bipush 100, 2) := by decide +kernel
theorem dX12_readsAct_64 : decode cX12_readsAct 64 = .ok (.if_icmp .eq 37, 3) := by decide +kernel
theorem dX12_readsAct_67 : decode cX12_readsAct 67 = .ok (.iload_n 1, 1) := by decide +kernel
theorem dX12_readsAct_68 : decode cX12_readsAct 68 = .ok (.bipush 116, 2) := by decide +kernel
theorem dX12_readsAct_70 : decode cX12_readsAct 70 = .ok (.if_icmp .eq 31, 3) := by decide +kernel
theorem dX12_readsAct_73 : decode cX12_readsAct 73 = .ok (.iload_n 1, 1) := by decide +kernel
theorem dX12_readsAct_74 : decode cX12_readsAct 74 = .ok (.bipush 112, 2) := by decide +kernel
theorem dX12_readsAct_76 : decode cX12_readsAct 76 = .ok (.if_icmp .eq 25, 3) := by decide +kernel
theorem dX12_readsAct_79 : decode cX12_readsAct 79 = .ok (.iload_n 1, 1) := by decide +kernel
theorem dX12_readsAct_80 : decode cX12_readsAct 80 = .ok (.bipush 104, 2) := by decide +kernel
theorem dX12_readsAct_82 : decode cX12_readsAct 82 = .ok (.if_icmp .eq 19, 3) := by decide +kernel
theorem dX12_readsAct_85 : decode cX12_readsAct 85 = .ok (.iload_n 1, 1) := by decide +kernel
theorem dX12_readsAct_86 : decode cX12_readsAct 86 = .ok (.bipush 107, 2) := by decide +kernel
theorem dX12_readsAct_88 : decode cX12_readsAct 88 = .ok (.if_icmp .eq 13, 3) := by decide +kernel
theorem dX12_readsAct_91 : decode cX12_readsAct 91 = .ok (.aload_n 0, 1) := by decide +kernel
theorem dX12_readsAct_92 : decode cX12_readsAct 92 = .ok (.iconst 1, 1) := by decide +kernel
theorem dX12_readsAct_93 : decode cX12_readsAct 93 = .ok (.aload_n 0, 1) := by decide +kernel
theorem dX12_readsAct_94 : decode cX12_readsAct 94 = .ok (.getfield 148, 3) := by decide +kernel
theorem dX12_readsAct_97 : decode cX12_readsAct 97 = .ok (.invokevirtual 161, 3) := by decide +kernel
theorem dX12_readsAct_100 : decode cX12_readsAct 100 = .ok (.ireturn, 1) := by decide +kernel
theorem dX12_readsAct_101 : decode cX12_readsAct 101 = .ok (.aload_n 0, 1) := by decide +kernel
theorem dX12_readsAct_102 : decode cX12_readsAct 102 = .ok (.aload_n 0, 1) := by decide +kernel
theorem dX12_readsAct_103 : decode cX12_readsAct 103 = .ok (.getfield 148, 3) := by decide +kernel
theorem dX12_readsAct_106 : decode cX12_readsAct 106 = .ok (.iconst 1, 1) := by decide +kernel
theorem dX12_readsAct_107 : decode cX12_readsAct 107 = .ok (.iadd, 1) := by decide +kernel
theorem dX12_readsAct_108 : decode cX12_readsAct 108 = .ok (.putfield 148, 3) := by decide +kernel
theorem dX12_readsAct_111 : decode cX12_readsAct 111 = .ok (.aload_n 0, 1) := by decide +kernel
theorem dX12_readsAct_112 : decode cX12_readsAct 112 = .ok (.aload_n 0, 1) := by decide +kernel
theorem dX12_readsAct_113 : decode cX12_readsAct 113 = .ok (.getfield 259, 3) := by decide +kernel
theorem dX12_readsAct_116 : decode cX12_readsAct 116 = .ok (.iconst 1, 1) := by decide +kernel
theorem dX12_readsAct_117 : decode cX12_readsAct 117 = .ok (.iadd, 1) := by decide +kernel
theorem dX12_readsAct_118 : decode cX12_readsAct 118 = .ok (.putfield 259, 3) := by decide +kernel
theorem dX12_readsAct_121 : decode cX12_readsAct 121 = .ok (.iload_n 1, 1) := by decide +kernel
theorem dX12_readsAct_122 : decode cX12_readsAct 122 = .ok (.bipush 107, 2) := by decide +kernel
theorem dX12_readsAct_124 : decode cX12_readsAct 124 = .ok (.if_icmp .ne 13, 3) := by decide +kernel
theorem dX12_readsAct_127 : decode cX12_readsAct 127 = .ok (.aload_n 0, 1) := by decide +kernel
theorem dX12_readsAct_128 : decode cX12_readsAct 128 = .ok (.bipush 6, 2) := by decide +kernel
theorem dX12_readsAct_130 : decode cX12_readsAct 130 = .ok (.iconst 0, 1) := by decide +kernel
theorem dX12_readsAct_131 : decode cX12_readsAct 131 = .ok (.iconst 0, 1) := by decide +kernel
theorem dX12_readsAct_132 : decode cX12_readsAct 132 = .ok (.invokevirtual 255, 3) := by decide +kernel
theorem dX12_readsAct_135 : decode cX12_readsAct 135 = .ok (.iconst 1, 1) := by decide +kernel
theorem dX12_readsAct_136 : decode cX12_readsAct 136 = .ok (.ireturn, 1) := by decide +kernel
theorem dX12_readsAct_137 : decode cX12_readsAct 137 = .ok (.iload_n 1, 1) := by decide +kernel
theorem dX12_readsAct_138 : decode cX12_readsAct 138 = .ok (.bipush 100, 2) := by decide +kernel
theorem dX12_readsAct_140 : decode cX12_readsAct 140 = .ok (.if_icmp .ne 11, 3) := by decide +kernel
theorem dX12_readsAct_143 : decode cX12_readsAct 143 = .ok (.aload_n 0, 1) := by decide +kernel
theorem dX12_readsAct_144 : decode cX12_readsAct 144 = .ok (.iconst 0, 1) := by decide +kernel
theorem dX12_readsAct_145 : decode cX12_readsAct 145 = .ok (.invokevirtual 265, 3) := by decide +kernel
theorem dX12_readsAct_148 : decode cX12_readsAct 148 = .ok (.goto 32, 3) := by decide +kernel
theorem dX12_readsAct_151 : decode cX12_readsAct 151 = .ok (.iload_n 1, 1) := by decide +kernel
theorem dX12_readsAct_152 : decode cX12_readsAct 152 = .ok (.bipush 116, 2) := by decide +kernel
theorem dX12_readsAct_154 : decode cX12_readsAct 154 = .ok (.if_icmp .ne 11, 3) := by decide +kernel
theorem dX12_readsAct_157 : decode cX12_readsAct 157 = .ok (.aload_n 0, 1) := by decide +kernel
theorem dX12_readsAct_158 : decode cX12_readsAct 158 = .ok (.iconst 1, 1) := by decide +kernel
theorem dX12_readsAct_159 : decode cX12_readsAct 159 = .ok (.invokevirtual 265, 3) := by decide +kernel
theorem dX12_readsAct_162 : decode cX12_readsAct 162 = .ok (.goto 18, 3) := by decide +kernel
theorem dX12_readsAct_165 : decode cX12_readsAct 165 = .ok (.aload_n 0, 1) := by decide +kernel
theorem dX12_readsAct_166 : decode cX12_readsAct 166 = .ok (.iload_n 1, 1) := by decide +kernel
theorem dX12_readsAct_167 : decode cX12_readsAct 167 = .ok (.bipush 112, 2) := by decide +kernel
theorem dX12_readsAct_169 : decode cX12_readsAct 169 = .ok (.if_icmp .ne 7, 3) := by decide +kernel
theorem dX12_readsAct_172 : decode cX12_readsAct 172 = .ok (.iconst 2, 1) := by decide +kernel
theorem dX12_readsAct_173 : decode cX12_readsAct 173 = .ok (.goto 4, 3) := by decide +kernel
theorem dX12_readsAct_176 : decode cX12_readsAct 176 = .ok (.iconst 3, 1) := by decide +kernel
theorem dX12_readsAct_177 : decode cX12_readsAct 177 = .ok (.invokevirtual 268, 3) := by decide +kernel
theorem dX12_readsAct_180 : decode cX12_readsAct 180 = .ok (.ireturn, 1) := by decide +kernel
theorem dX12_frameNow_0 : decode cX12_frameNow 0 = .ok (.aload_n 0, 1) := by decide +kernel
theorem dX12_frameNow_1 : decode cX12_frameNow 1 = .ok (.getfield 252, 3) := by decide +kernel
theorem dX12_frameNow_4 : decode cX12_frameNow 4 = .ok (.ifCond .ne 7, 3) := by decide +kernel
theorem dX12_frameNow_7 : decode cX12_frameNow 7 = .ok (.iconst 0, 1) := by decide +kernel
theorem dX12_frameNow_8 : decode cX12_frameNow 8 = .ok (.goto 14, 3) := by decide +kernel
theorem dX12_frameNow_11 : decode cX12_frameNow 11 = .ok (.aload_n 0, 1) := by decide +kernel
theorem dX12_frameNow_12 : decode cX12_frameNow 12 = .ok (.getfield 62, 3) := by decide +kernel
theorem dX12_frameNow_15 : decode cX12_frameNow 15 = .ok (.aload_n 0, 1) := by decide +kernel
theorem dX12_frameNow_16 : decode cX12_frameNow 16 = .ok (.getfield 252, 3) := by decide +kernel
theorem dX12_frameNow_19 : decode cX12_frameNow 19 = .ok (.iconst 1, 1) := by decide +kernel
theorem dX12_frameNow_20 : decode cX12_frameNow 20 = .ok (.isub, 1) := by decide +kernel
theorem dX12_frameNow_21 : decode cX12_frameNow 21 = .ok (.iaload, 1) := by decide +kernel
theorem dX12_frameNow_22 : decode cX12_frameNow 22 = .ok (.ireturn, 1) := by decide +kernel
theorem dX12_closes_0 : decode cX12_closes 0 = .ok (.aload_n 0, 1) := by decide +kernel
theorem dX12_closes_1 : decode cX12_closes 1 = .ok (.getfield 65, 3) := by decide +kernel
theorem dX12_closes_4 : decode cX12_closes 4 = .ok (.aload_n 0, 1) := by decide +kernel
theorem dX12_closes_5 : decode cX12_closes 5 = .ok (.getfield 252, 3) := by decide +kernel
theorem dX12_closes_8 : decode cX12_closes 8 = .ok (.iconst 1, 1) := by decide +kernel
theorem dX12_closes_9 : decode cX12_closes 9 = .ok (.isub, 1) := by decide +kernel
theorem dX12_closes_10 : decode cX12_closes 10 = .ok (.iaload, 1) := by decide +kernel
theorem dX12_closes_11 : decode cX12_closes 11 = .ok (.istore_n 1, 1) := by decide +kernel
theorem dX12_closes_12 : decode cX12_closes 12 = .ok (.aload_n 0, 1) := by decide +kernel
theorem dX12_closes_13 : decode cX12_closes 13 = .ok (.getfield 62, 3) := by decide +kernel
theorem dX12_closes_16 : decode cX12_closes 16 = .ok (.aload_n 0, 1) := by decide +kernel
theorem dX12_closes_17 : decode cX12_closes 17 = .ok (.getfield 252, 3) := by decide +kernel
theorem dX12_closes_20 : decode cX12_closes 20 = .ok (.iconst 1, 1) := by decide +kernel
theorem dX12_closes_21 : decode cX12_closes 21 = .ok (.isub, 1) := by decide +kernel
theorem dX12_closes_22 : decode cX12_closes 22 = .ok (.iaload, 1) := by decide +kernel
theorem dX12_closes_23 : decode cX12_closes 23 = .ok (.bipush 119, 2) := by decide +kernel
theorem dX12_closes_25 : decode cX12_closes 25 = .ok (.if_icmp .ne 10, 3) := by decide +kernel
theorem dX12_closes_28 : decode cX12_closes 28 = .ok (.aload_n 0, 1) := by decide +kernel
theorem dX12_closes_29 : decode cX12_closes 29 = .ok (.iconst 5, 1) := by decide +kernel
theorem dX12_closes_30 : decode cX12_closes 30 = .ok (.iconst 0, 1) := by decide +kernel
theorem dX12_closes_31 : decode cX12_closes 31 = .ok (.iload_n 1, 1) := by decide +kernel
theorem dX12_closes_32 : decode cX12_closes 32 = .ok (.invokevirtual 255, 3) := by decide +kernel
theorem dX12_closes_35 : decode cX12_closes 35 = .ok (.aload_n 0, 1) := by decide +kernel
theorem dX12_closes_36 : decode cX12_closes 36 = .ok (.getfield 44, 3) := by decide +kernel
theorem dX12_closes_39 : decode cX12_closes 39 = .ok (.iload_n 1, 1) := by decide +kernel
theorem dX12_closes_40 : decode cX12_closes 40 = .ok (.aload_n 0, 1) := by decide +kernel
theorem dX12_closes_41 : decode cX12_closes 41 = .ok (.getfield 172, 3) := by decide +kernel
theorem dX12_closes_44 : decode cX12_closes 44 = .ok (.iastore, 1) := by decide +kernel
theorem dX12_closes_45 : decode cX12_closes 45 = .ok (.aload_n 0, 1) := by decide +kernel
theorem dX12_closes_46 : decode cX12_closes 46 = .ok (.aload_n 0, 1) := by decide +kernel
theorem dX12_closes_47 : decode cX12_closes 47 = .ok (.getfield 252, 3) := by decide +kernel
theorem dX12_closes_50 : decode cX12_closes 50 = .ok (.iconst 1, 1) := by decide +kernel
theorem dX12_closes_51 : decode cX12_closes 51 = .ok (.isub, 1) := by decide +kernel
theorem dX12_closes_52 : decode cX12_closes 52 = .ok (.putfield 252, 3) := by decide +kernel
theorem dX12_closes_55 : decode cX12_closes 55 = .ok (.aload_n 0, 1) := by decide +kernel
theorem dX12_closes_56 : decode cX12_closes 56 = .ok (.aload_n 0, 1) := by decide +kernel
theorem dX12_closes_57 : decode cX12_closes 57 = .ok (.getfield 148, 3) := by decide +kernel
theorem dX12_closes_60 : decode cX12_closes 60 = .ok (.iconst 1, 1) := by decide +kernel
theorem dX12_closes_61 : decode cX12_closes 61 = .ok (.iadd, 1) := by decide +kernel
theorem dX12_closes_62 : decode cX12_closes 62 = .ok (.putfield 148, 3) := by decide +kernel
theorem dX12_closes_65 : decode cX12_closes 65 = .ok (.return_, 1) := by decide +kernel
theorem dX12_turns_0 : decode cX12_turns 0 = .ok (.aload_n 0, 1) := by decide +kernel
theorem dX12_turns_1 : decode cX12_turns 1 = .ok (.getfield 65, 3) := by decide +kernel
theorem dX12_turns_4 : decode cX12_turns 4 = .ok (.aload_n 0, 1) := by decide +kernel
theorem dX12_turns_5 : decode cX12_turns 5 = .ok (.getfield 252, 3) := by decide +kernel
theorem dX12_turns_8 : decode cX12_turns 8 = .ok (.iconst 1, 1) := by decide +kernel
theorem dX12_turns_9 : decode cX12_turns 9 = .ok (.isub, 1) := by decide +kernel
theorem dX12_turns_10 : decode cX12_turns 10 = .ok (.iaload, 1) := by decide +kernel
theorem dX12_turns_11 : decode cX12_turns 11 = .ok (.istore_n 1, 1) := by decide +kernel
theorem dX12_turns_12 : decode cX12_turns 12 = .ok (.aload_n 0, 1) := by decide +kernel
theorem dX12_turns_13 : decode cX12_turns 13 = .ok (.getfield 62, 3) := by decide +kernel
theorem dX12_turns_16 : decode cX12_turns 16 = .ok (.aload_n 0, 1) := by decide +kernel
theorem dX12_turns_17 : decode cX12_turns 17 = .ok (.getfield 252, 3) := by decide +kernel
theorem dX12_turns_20 : decode cX12_turns 20 = .ok (.iconst 1, 1) := by decide +kernel
theorem dX12_turns_21 : decode cX12_turns 21 = .ok (.isub, 1) := by decide +kernel
theorem dX12_turns_22 : decode cX12_turns 22 = .ok (.bipush 58, 2) := by decide +kernel
theorem dX12_turns_24 : decode cX12_turns 24 = .ok (.iastore, 1) := by decide +kernel
theorem dX12_turns_25 : decode cX12_turns 25 = .ok (.aload_n 0, 1) := by decide +kernel
theorem dX12_turns_26 : decode cX12_turns 26 = .ok (.getfield 65, 3) := by decide +kernel
theorem dX12_turns_29 : decode cX12_turns 29 = .ok (.aload_n 0, 1) := by decide +kernel
theorem dX12_turns_30 : decode cX12_turns 30 = .ok (.getfield 252, 3) := by decide +kernel
theorem dX12_turns_33 : decode cX12_turns 33 = .ok (.iconst 1, 1) := by decide +kernel
theorem dX12_turns_34 : decode cX12_turns 34 = .ok (.isub, 1) := by decide +kernel
theorem dX12_turns_35 : decode cX12_turns 35 = .ok (.aload_n 0, 1) := by decide +kernel
theorem dX12_turns_36 : decode cX12_turns 36 = .ok (.getfield 172, 3) := by decide +kernel
theorem dX12_turns_39 : decode cX12_turns 39 = .ok (.iastore, 1) := by decide +kernel
theorem dX12_turns_40 : decode cX12_turns 40 = .ok (.aload_n 0, 1) := by decide +kernel
theorem dX12_turns_41 : decode cX12_turns 41 = .ok (.iconst 5, 1) := by decide +kernel
theorem dX12_turns_42 : decode cX12_turns 42 = .ok (.iconst 0, 1) := by decide +kernel
theorem dX12_turns_43 : decode cX12_turns 43 = .ok (.iconst 0, 1) := by decide +kernel
theorem dX12_turns_44 : decode cX12_turns 44 = .ok (.invokevirtual 255, 3) := by decide +kernel
theorem dX12_turns_47 : decode cX12_turns 47 = .ok (.aload_n 0, 1) := by decide +kernel
theorem dX12_turns_48 : decode cX12_turns 48 = .ok (.getfield 44, 3) := by decide +kernel
theorem dX12_turns_51 : decode cX12_turns 51 = .ok (.iload_n 1, 1) := by decide +kernel
theorem dX12_turns_52 : decode cX12_turns 52 = .ok (.aload_n 0, 1) := by decide +kernel
theorem dX12_turns_53 : decode cX12_turns 53 = .ok (.getfield 172, 3) := by decide +kernel
theorem dX12_turns_56 : decode cX12_turns 56 = .ok (.iastore, 1) := by decide +kernel
theorem dX12_turns_57 : decode cX12_turns 57 = .ok (.aload_n 0, 1) := by decide +kernel
theorem dX12_turns_58 : decode cX12_turns 58 = .ok (.aload_n 0, 1) := by decide +kernel
theorem dX12_turns_59 : decode cX12_turns 59 = .ok (.getfield 148, 3) := by decide +kernel
theorem dX12_turns_62 : decode cX12_turns 62 = .ok (.iconst 1, 1) := by decide +kernel
theorem dX12_turns_63 : decode cX12_turns 63 = .ok (.iadd, 1) := by decide +kernel
theorem dX12_turns_64 : decode cX12_turns 64 = .ok (.putfield 148, 3) := by decide +kernel
theorem dX12_turns_67 : decode cX12_turns 67 = .ok (.return_, 1) := by decide +kernel
theorem dX12_readsRecipe_0 : decode cX12_readsRecipe 0 = .ok (.aload_n 0, 1) := by decide +kernel
theorem dX12_readsRecipe_1 : decode cX12_readsRecipe 1 = .ok (.iconst 0, 1) := by decide +kernel
theorem dX12_readsRecipe_2 : decode cX12_readsRecipe 2 = .ok (.putfield 252, 3) := by decide +kernel
theorem dX12_readsRecipe_5 : decode cX12_readsRecipe 5 = .ok (.aload_n 0, 1) := by decide +kernel
theorem dX12_readsRecipe_6 : decode cX12_readsRecipe 6 = .ok (.iconst 0, 1) := by decide +kernel
theorem dX12_readsRecipe_7 : decode cX12_readsRecipe 7 = .ok (.putfield 259, 3) := by decide +kernel
theorem dX12_readsRecipe_10 : decode cX12_readsRecipe 10 = .ok (.aload_n 0, 1) := by decide +kernel
theorem dX12_readsRecipe_11 : decode cX12_readsRecipe 11 = .ok (.invokevirtual 271, 3) := by decide +kernel
theorem dX12_readsRecipe_14 : decode cX12_readsRecipe 14 = .ok (.ifCond .ne 5, 3) := by decide +kernel
theorem dX12_readsRecipe_17 : decode cX12_readsRecipe 17 = .ok (.iconst 0, 1) := by decide +kernel
theorem dX12_readsRecipe_18 : decode cX12_readsRecipe 18 = .ok (.ireturn, 1) := by decide +kernel
theorem dX12_readsRecipe_19 : decode cX12_readsRecipe 19 = .ok (.aload_n 0, 1) := by decide +kernel
theorem dX12_readsRecipe_20 : decode cX12_readsRecipe 20 = .ok (.invokevirtual 154, 3) := by decide +kernel
theorem dX12_readsRecipe_23 : decode cX12_readsRecipe 23 = .ok (.bipush 41, 2) := by decide +kernel
theorem dX12_readsRecipe_25 : decode cX12_readsRecipe 25 = .ok (.if_icmp .ne 28, 3) := by decide +kernel
theorem dX12_readsRecipe_28 : decode cX12_readsRecipe 28 = .ok (.aload_n 0, 1) := by decide +kernel
theorem dX12_readsRecipe_29 : decode cX12_readsRecipe 29 = .ok (.invokevirtual 274, 3) := by decide +kernel
theorem dX12_readsRecipe_32 : decode cX12_readsRecipe 32 = .ok (.bipush 119, 2) := by decide +kernel
theorem dX12_readsRecipe_34 : decode cX12_readsRecipe 34 = .ok (.if_icmp .eq 12, 3) := by decide +kernel
theorem dX12_readsRecipe_37 : decode cX12_readsRecipe 37 = .ok (.aload_n 0, 1) := by decide +kernel
theorem dX12_readsRecipe_38 : decode cX12_readsRecipe 38 = .ok (.invokevirtual 274, 3) := by decide +kernel
theorem dX12_readsRecipe_41 : decode cX12_readsRecipe 41 = .ok (.bipush 58, 2) := by decide +kernel
theorem dX12_readsRecipe_43 : decode cX12_readsRecipe 43 = .ok (.if_icmp .ne 10, 3) := by decide +kernel
theorem dX12_readsRecipe_46 : decode cX12_readsRecipe 46 = .ok (.aload_n 0, 1) := by decide +kernel
theorem dX12_readsRecipe_47 : decode cX12_readsRecipe 47 = .ok (.invokevirtual 277, 3) := by decide +kernel
theorem dX12_readsRecipe_50 : decode cX12_readsRecipe 50 = .ok (.goto (-31), 3) := by decide +kernel
theorem dX12_readsRecipe_53 : decode cX12_readsRecipe 53 = .ok (.aload_n 0, 1) := by decide +kernel
theorem dX12_readsRecipe_54 : decode cX12_readsRecipe 54 = .ok (.getfield 148, 3) := by decide +kernel
theorem dX12_readsRecipe_57 : decode cX12_readsRecipe 57 = .ok (.aload_n 0, 1) := by decide +kernel
theorem dX12_readsRecipe_58 : decode cX12_readsRecipe 58 = .ok (.getfield 151, 3) := by decide +kernel
theorem dX12_readsRecipe_61 : decode cX12_readsRecipe 61 = .ok (.if_icmp .ne 12, 3) := by decide +kernel
theorem dX12_readsRecipe_64 : decode cX12_readsRecipe 64 = .ok (.aload_n 0, 1) := by decide +kernel
theorem dX12_readsRecipe_65 : decode cX12_readsRecipe 65 = .ok (.getfield 252, 3) := by decide +kernel
theorem dX12_readsRecipe_68 : decode cX12_readsRecipe 68 = .ok (.ifCond .ne 5, 3) := by decide +kernel
theorem dX12_readsRecipe_71 : decode cX12_readsRecipe 71 = .ok (.iconst 1, 1) := by decide +kernel
theorem dX12_readsRecipe_72 : decode cX12_readsRecipe 72 = .ok (.ireturn, 1) := by decide +kernel
theorem dX12_readsRecipe_73 : decode cX12_readsRecipe 73 = .ok (.aload_n 0, 1) := by decide +kernel
theorem dX12_readsRecipe_74 : decode cX12_readsRecipe 74 = .ok (.invokevirtual 154, 3) := by decide +kernel
theorem dX12_readsRecipe_77 : decode cX12_readsRecipe 77 = .ok (.bipush 58, 2) := by decide +kernel
theorem dX12_readsRecipe_79 : decode cX12_readsRecipe 79 = .ok (.if_icmp .ne (-69), 3) := by decide +kernel
theorem dX12_readsRecipe_82 : decode cX12_readsRecipe 82 = .ok (.aload_n 0, 1) := by decide +kernel
theorem dX12_readsRecipe_83 : decode cX12_readsRecipe 83 = .ok (.invokevirtual 274, 3) := by decide +kernel
theorem dX12_readsRecipe_86 : decode cX12_readsRecipe 86 = .ok (.bipush 105, 2) := by decide +kernel
theorem dX12_readsRecipe_88 : decode cX12_readsRecipe 88 = .ok (.if_icmp .ne (-78), 3) := by decide +kernel
theorem dX12_readsRecipe_91 : decode cX12_readsRecipe 91 = .ok (.aload_n 0, 1) := by decide +kernel
theorem dX12_readsRecipe_92 : decode cX12_readsRecipe 92 = .ok (.invokevirtual 280, 3) := by decide +kernel
theorem dX12_readsRecipe_95 : decode cX12_readsRecipe 95 = .ok (.goto (-85), 3) := by decide +kernel
theorem dX12_recipe_0 : decode cX12_recipe 0 = .ok (.iload_n 1, 1) := by decide +kernel
theorem dX12_recipe_1 : decode cX12_recipe 1 = .ok (.iconst 0, 1) := by decide +kernel
theorem dX12_recipe_2 : decode cX12_recipe 2 = .ok (.iconst 2, 1) := by decide +kernel
theorem dX12_recipe_3 : decode cX12_recipe 3 = .ok (.invokestatic 137, 3) := by decide +kernel
theorem dX12_recipe_6 : decode cX12_recipe 6 = .ok (.ifCond .eq 11, 3) := by decide +kernel
theorem dX12_recipe_9 : decode cX12_recipe 9 = .ok (.aload_n 0, 1) := by decide +kernel
theorem dX12_recipe_10 : decode cX12_recipe 10 = .ok (.iload_n 2, 1) := by decide +kernel
theorem dX12_recipe_11 : decode cX12_recipe 11 = .ok (.invokevirtual 230, 3) := by decide +kernel
theorem dX12_recipe_14 : decode cX12_recipe 14 = .ok (.ifCond .ne 5, 3) := by decide +kernel
theorem dX12_recipe_17 : decode cX12_recipe 17 = .ok (.iconst (-1), 1) := by decide +kernel
theorem dX12_recipe_18 : decode cX12_recipe 18 = .ok (.ireturn, 1) := by decide +kernel
theorem dX12_recipe_19 : decode cX12_recipe 19 = .ok (.aload_n 0, 1) := by decide +kernel
theorem dX12_recipe_20 : decode cX12_recipe 20 = .ok (.iload_n 2, 1) := by decide +kernel
theorem dX12_recipe_21 : decode cX12_recipe 21 = .ok (.invokevirtual 233, 3) := by decide +kernel
theorem dX12_recipe_24 : decode cX12_recipe 24 = .ok (.aload_n 0, 1) := by decide +kernel
theorem dX12_recipe_25 : decode cX12_recipe 25 = .ok (.invokevirtual 283, 3) := by decide +kernel
theorem dX12_recipe_28 : decode cX12_recipe 28 = .ok (.istore_n 3, 1) := by decide +kernel
theorem dX12_recipe_29 : decode cX12_recipe 29 = .ok (.aload_n 0, 1) := by decide +kernel
theorem dX12_recipe_30 : decode cX12_recipe 30 = .ok (.iconst 0, 1) := by decide +kernel
theorem dX12_recipe_31 : decode cX12_recipe 31 = .ok (.putfield 141, 3) := by decide +kernel
theorem dX12_recipe_34 : decode cX12_recipe 34 = .ok (.iload_n 3, 1) := by decide +kernel
theorem dX12_recipe_35 : decode cX12_recipe 35 = .ok (.ifCond .ne 8, 3) := by decide +kernel
theorem dX12_recipe_38 : decode cX12_recipe 38 = .ok (.aload_n 0, 1) := by decide +kernel
theorem dX12_recipe_39 : decode cX12_recipe 39 = .ok (.getfield 158, 3) := by decide +kernel
theorem dX12_recipe_42 : decode cX12_recipe 42 = .ok (.ireturn, 1) := by decide +kernel
theorem dX12_recipe_43 : decode cX12_recipe 43 = .ok (.aload_n 0, 1) := by decide +kernel
theorem dX12_recipe_44 : decode cX12_recipe 44 = .ok (.getfield 56, 3) := by decide +kernel
theorem dX12_recipe_47 : decode cX12_recipe 47 = .ok (.iload_n 1, 1) := by decide +kernel
theorem dX12_recipe_48 : decode cX12_recipe 48 = .ok (.aload_n 0, 1) := by decide +kernel
theorem dX12_recipe_49 : decode cX12_recipe 49 = .ok (.getfield 172, 3) := by decide +kernel
theorem dX12_recipe_52 : decode cX12_recipe 52 = .ok (.iastore, 1) := by decide +kernel
theorem dX12_recipe_53 : decode cX12_recipe 53 = .ok (.aload_n 0, 1) := by decide +kernel
theorem dX12_recipe_54 : decode cX12_recipe 54 = .ok (.getfield 59, 3) := by decide +kernel
theorem dX12_recipe_57 : decode cX12_recipe 57 = .ok (.iload_n 1, 1) := by decide +kernel
theorem dX12_recipe_58 : decode cX12_recipe 58 = .ok (.aload_n 0, 1) := by decide +kernel
theorem dX12_recipe_59 : decode cX12_recipe 59 = .ok (.getfield 259, 3) := by decide +kernel
theorem dX12_recipe_62 : decode cX12_recipe 62 = .ok (.iastore, 1) := by decide +kernel
theorem dX12_recipe_63 : decode cX12_recipe 63 = .ok (.iconst 0, 1) := by decide +kernel
theorem dX12_recipe_64 : decode cX12_recipe 64 = .ok (.istore 4, 2) := by decide +kernel
theorem dX12_recipe_66 : decode cX12_recipe 66 = .ok (.iload 4, 2) := by decide +kernel
theorem dX12_recipe_68 : decode cX12_recipe 68 = .ok (.aload_n 0, 1) := by decide +kernel
theorem dX12_recipe_69 : decode cX12_recipe 69 = .ok (.getfield 172, 3) := by decide +kernel
theorem dX12_recipe_72 : decode cX12_recipe 72 = .ok (.if_icmp .ge 69, 3) := by decide +kernel
theorem dX12_recipe_75 : decode cX12_recipe 75 = .ok (.aload_n 0, 1) := by decide +kernel
theorem dX12_recipe_76 : decode cX12_recipe 76 = .ok (.getfield 47, 3) := by decide +kernel
theorem dX12_recipe_79 : decode cX12_recipe 79 = .ok (.sipush 160, 3) := by decide +kernel
theorem dX12_recipe_82 : decode cX12_recipe 82 = .ok (.iload_n 1, 1) := by decide +kernel
theorem dX12_recipe_83 : decode cX12_recipe 83 = .ok (.imul, 1) := by decide +kernel
theorem dX12_recipe_84 : decode cX12_recipe 84 = .ok (.iload 4, 2) := by decide +kernel
theorem dX12_recipe_86 : decode cX12_recipe 86 = .ok (.iadd, 1) := by decide +kernel
theorem dX12_recipe_87 : decode cX12_recipe 87 = .ok (.aload_n 0, 1) := by decide +kernel
theorem dX12_recipe_88 : decode cX12_recipe 88 = .ok (.getfield 38, 3) := by decide +kernel
theorem dX12_recipe_91 : decode cX12_recipe 91 = .ok (.iload 4, 2) := by decide +kernel
theorem dX12_recipe_93 : decode cX12_recipe 93 = .ok (.iaload, 1) := by decide +kernel
theorem dX12_recipe_94 : decode cX12_recipe 94 = .ok (.iastore, 1) := by decide +kernel
theorem dX12_recipe_95 : decode cX12_recipe 95 = .ok (.aload_n 0, 1) := by decide +kernel
theorem dX12_recipe_96 : decode cX12_recipe 96 = .ok (.getfield 50, 3) := by decide +kernel
theorem dX12_recipe_99 : decode cX12_recipe 99 = .ok (.sipush 160, 3) := by decide +kernel
theorem dX12_recipe_102 : decode cX12_recipe 102 = .ok (.iload_n 1, 1) := by decide +kernel
theorem dX12_recipe_103 : decode cX12_recipe 103 = .ok (.imul, 1) := by decide +kernel
theorem dX12_recipe_104 : decode cX12_recipe 104 = .ok (.iload 4, 2) := by decide +kernel
theorem dX12_recipe_106 : decode cX12_recipe 106 = .ok (.iadd, 1) := by decide +kernel
theorem dX12_recipe_107 : decode cX12_recipe 107 = .ok (.aload_n 0, 1) := by decide +kernel
theorem dX12_recipe_108 : decode cX12_recipe 108 = .ok (.getfield 41, 3) := by decide +kernel
theorem dX12_recipe_111 : decode cX12_recipe 111 = .ok (.iload 4, 2) := by decide +kernel
theorem dX12_recipe_113 : decode cX12_recipe 113 = .ok (.iaload, 1) := by decide +kernel
theorem dX12_recipe_114 : decode cX12_recipe 114 = .ok (.iastore, 1) := by decide +kernel
theorem dX12_recipe_115 : decode cX12_recipe 115 = .ok (.aload_n 0, 1) := by decide +kernel
theorem dX12_recipe_116 : decode cX12_recipe 116 = .ok (.getfield 53, 3) := by decide +kernel
theorem dX12_recipe_119 : decode cX12_recipe 119 = .ok (.sipush 160, 3) := by decide +kernel
theorem dX12_recipe_122 : decode cX12_recipe 122 = .ok (.iload_n 1, 1) := by decide +kernel
theorem dX12_recipe_123 : decode cX12_recipe 123 = .ok (.imul, 1) := by decide +kernel
theorem dX12_recipe_124 : decode cX12_recipe 124 = .ok (.iload 4, 2) := by decide +kernel
theorem dX12_recipe_126 : decode cX12_recipe 126 = .ok (.iadd, 1) := by decide +kernel
theorem dX12_recipe_127 : decode cX12_recipe 127 = .ok (.aload_n 0, 1) := by decide +kernel
theorem dX12_recipe_128 : decode cX12_recipe 128 = .ok (.getfield 44, 3) := by decide +kernel
theorem dX12_recipe_131 : decode cX12_recipe 131 = .ok (.iload 4, 2) := by decide +kernel
theorem dX12_recipe_133 : decode cX12_recipe 133 = .ok (.iaload, 1) := by decide +kernel
theorem dX12_recipe_134 : decode cX12_recipe 134 = .ok (.iastore, 1) := by decide +kernel
theorem dX12_recipe_135 : decode cX12_recipe 135 = .ok (.iinc 4 1, 3) := by decide +kernel
theorem dX12_recipe_138 : decode cX12_recipe 138 = .ok (.goto (-72), 3) := by decide +kernel
theorem dX12_recipe_141 : decode cX12_recipe 141 = .ok (.aload_n 0, 1) := by decide +kernel
theorem dX12_recipe_142 : decode cX12_recipe 142 = .ok (.getfield 259, 3) := by decide +kernel
theorem dX12_recipe_145 : decode cX12_recipe 145 = .ok (.ireturn, 1) := by decide +kernel
theorem dX12_startsFrom_0 : decode cX12_startsFrom 0 = .ok (.iconst 0, 1) := by decide +kernel
theorem dX12_startsFrom_1 : decode cX12_startsFrom 1 = .ok (.istore_n 2, 1) := by decide +kernel
theorem dX12_startsFrom_2 : decode cX12_startsFrom 2 = .ok (.iload_n 2, 1) := by decide +kernel
theorem dX12_startsFrom_3 : decode cX12_startsFrom 3 = .ok (.bipush 6, 2) := by decide +kernel
theorem dX12_startsFrom_5 : decode cX12_startsFrom 5 = .ok (.if_icmp .ge 27, 3) := by decide +kernel
theorem dX12_startsFrom_8 : decode cX12_startsFrom 8 = .ok (.aload_n 0, 1) := by decide +kernel
theorem dX12_startsFrom_9 : decode cX12_startsFrom 9 = .ok (.getfield 68, 3) := by decide +kernel
theorem dX12_startsFrom_12 : decode cX12_startsFrom 12 = .ok (.iload_n 2, 1) := by decide +kernel
theorem dX12_startsFrom_13 : decode cX12_startsFrom 13 = .ok (.aload_n 1, 1) := by decide +kernel
theorem dX12_startsFrom_14 : decode cX12_startsFrom 14 = .ok (.iload_n 2, 1) := by decide +kernel
theorem dX12_startsFrom_15 : decode cX12_startsFrom 15 = .ok (.iaload, 1) := by decide +kernel
theorem dX12_startsFrom_16 : decode cX12_startsFrom 16 = .ok (.iastore, 1) := by decide +kernel
theorem dX12_startsFrom_17 : decode cX12_startsFrom 17 = .ok (.aload_n 0, 1) := by decide +kernel
theorem dX12_startsFrom_18 : decode cX12_startsFrom 18 = .ok (.getfield 71, 3) := by decide +kernel
theorem dX12_startsFrom_21 : decode cX12_startsFrom 21 = .ok (.iload_n 2, 1) := by decide +kernel
theorem dX12_startsFrom_22 : decode cX12_startsFrom 22 = .ok (.aload_n 1, 1) := by decide +kernel
theorem dX12_startsFrom_23 : decode cX12_startsFrom 23 = .ok (.iload_n 2, 1) := by decide +kernel
theorem dX12_startsFrom_24 : decode cX12_startsFrom 24 = .ok (.iaload, 1) := by decide +kernel
theorem dX12_startsFrom_25 : decode cX12_startsFrom 25 = .ok (.iastore, 1) := by decide +kernel
theorem dX12_startsFrom_26 : decode cX12_startsFrom 26 = .ok (.iinc 2 1, 3) := by decide +kernel
theorem dX12_startsFrom_29 : decode cX12_startsFrom 29 = .ok (.goto (-27), 3) := by decide +kernel
theorem dX12_startsFrom_32 : decode cX12_startsFrom 32 = .ok (.aload_n 0, 1) := by decide +kernel
theorem dX12_startsFrom_33 : decode cX12_startsFrom 33 = .ok (.iconst 0, 1) := by decide +kernel
theorem dX12_startsFrom_34 : decode cX12_startsFrom 34 = .ok (.putfield 286, 3) := by decide +kernel
theorem dX12_startsFrom_37 : decode cX12_startsFrom 37 = .ok (.aload_n 0, 1) := by decide +kernel
theorem dX12_startsFrom_38 : decode cX12_startsFrom 38 = .ok (.iconst 0, 1) := by decide +kernel
theorem dX12_startsFrom_39 : decode cX12_startsFrom 39 = .ok (.putfield 289, 3) := by decide +kernel
theorem dX12_startsFrom_42 : decode cX12_startsFrom 42 = .ok (.aload_n 0, 1) := by decide +kernel
theorem dX12_startsFrom_43 : decode cX12_startsFrom 43 = .ok (.iconst 0, 1) := by decide +kernel
theorem dX12_startsFrom_44 : decode cX12_startsFrom 44 = .ok (.putfield 292, 3) := by decide +kernel
theorem dX12_startsFrom_47 : decode cX12_startsFrom 47 = .ok (.aload_n 0, 1) := by decide +kernel
theorem dX12_startsFrom_48 : decode cX12_startsFrom 48 = .ok (.iconst 0, 1) := by decide +kernel
theorem dX12_startsFrom_49 : decode cX12_startsFrom 49 = .ok (.putfield 295, 3) := by decide +kernel
theorem dX12_startsFrom_52 : decode cX12_startsFrom 52 = .ok (.aload_n 0, 1) := by decide +kernel
theorem dX12_startsFrom_53 : decode cX12_startsFrom 53 = .ok (.iconst 0, 1) := by decide +kernel
theorem dX12_startsFrom_54 : decode cX12_startsFrom 54 = .ok (.putfield 298, 3) := by decide +kernel
theorem dX12_startsFrom_57 : decode cX12_startsFrom 57 = .ok (.aload_n 0, 1) := by decide +kernel
theorem dX12_startsFrom_58 : decode cX12_startsFrom 58 = .ok (.iconst 0, 1) := by decide +kernel
theorem dX12_startsFrom_59 : decode cX12_startsFrom 59 = .ok (.putfield 301, 3) := by decide +kernel
theorem dX12_startsFrom_62 : decode cX12_startsFrom 62 = .ok (.return_, 1) := by decide +kernel
theorem dX12_pours_0 : decode cX12_pours 0 = .ok (.iload_n 1, 1) := by decide +kernel
theorem dX12_pours_1 : decode cX12_pours 1 = .ok (.iload_n 2, 1) := by decide +kernel
theorem dX12_pours_2 : decode cX12_pours 2 = .ok (.if_icmp .ne 4, 3) := by decide +kernel
theorem dX12_pours_5 : decode cX12_pours 5 = .ok (.return_, 1) := by decide +kernel
theorem dX12_pours_6 : decode cX12_pours 6 = .ok (.iload_n 3, 1) := by decide +kernel
theorem dX12_pours_7 : decode cX12_pours 7 = .ok (.aload_n 0, 1) := by decide +kernel
theorem dX12_pours_8 : decode cX12_pours 8 = .ok (.getfield 13, 3) := by decide +kernel
theorem dX12_pours_11 : decode cX12_pours 11 = .ok (.iload_n 2, 1) := by decide +kernel
theorem dX12_pours_12 : decode cX12_pours 12 = .ok (.iaload, 1) := by decide +kernel
theorem dX12_pours_13 : decode cX12_pours 13 = .ok (.aload_n 0, 1) := by decide +kernel
theorem dX12_pours_14 : decode cX12_pours 14 = .ok (.getfield 71, 3) := by decide +kernel
theorem dX12_pours_17 : decode cX12_pours 17 = .ok (.iload_n 2, 1) := by decide +kernel
theorem dX12_pours_18 : decode cX12_pours 18 = .ok (.iaload, 1) := by decide +kernel
theorem dX12_pours_19 : decode cX12_pours 19 = .ok (.isub, 1) := by decide +kernel
theorem dX12_pours_20 : decode cX12_pours 20 = .ok (.invokestatic 304, 3) := by decide +kernel
theorem dX12_pours_23 : decode cX12_pours 23 = .ok (.istore 4, 2) := by decide +kernel
theorem dX12_pours_25 : decode cX12_pours 25 = .ok (.aload_n 0, 1) := by decide +kernel
theorem dX12_pours_26 : decode cX12_pours 26 = .ok (.getfield 71, 3) := by decide +kernel
theorem dX12_pours_29 : decode cX12_pours 29 = .ok (.iload_n 1, 1) := by decide +kernel
theorem dX12_pours_30 : decode cX12_pours 30 = .ok (.aload_n 0, 1) := by decide +kernel
theorem dX12_pours_31 : decode cX12_pours 31 = .ok (.getfield 71, 3) := by decide +kernel
theorem dX12_pours_34 : decode cX12_pours 34 = .ok (.iload_n 1, 1) := by decide +kernel
theorem dX12_pours_35 : decode cX12_pours 35 = .ok (.iaload, 1) := by decide +kernel
theorem dX12_pours_36 : decode cX12_pours 36 = .ok (.iload 4, 2) := by decide +kernel
theorem dX12_pours_38 : decode cX12_pours 38 = .ok (.isub, 1) := by decide +kernel
theorem dX12_pours_39 : decode cX12_pours 39 = .ok (.iastore, 1) := by decide +kernel
theorem dX12_pours_40 : decode cX12_pours 40 = .ok (.aload_n 0, 1) := by decide +kernel
theorem dX12_pours_41 : decode cX12_pours 41 = .ok (.getfield 71, 3) := by decide +kernel
theorem dX12_pours_44 : decode cX12_pours 44 = .ok (.iload_n 2, 1) := by decide +kernel
theorem dX12_pours_45 : decode cX12_pours 45 = .ok (.aload_n 0, 1) := by decide +kernel
theorem dX12_pours_46 : decode cX12_pours 46 = .ok (.getfield 71, 3) := by decide +kernel
theorem dX12_pours_49 : decode cX12_pours 49 = .ok (.iload_n 2, 1) := by decide +kernel
theorem dX12_pours_50 : decode cX12_pours 50 = .ok (.iaload, 1) := by decide +kernel
theorem dX12_pours_51 : decode cX12_pours 51 = .ok (.iload 4, 2) := by decide +kernel
theorem dX12_pours_53 : decode cX12_pours 53 = .ok (.iadd, 1) := by decide +kernel
theorem dX12_pours_54 : decode cX12_pours 54 = .ok (.iastore, 1) := by decide +kernel
theorem dX12_pours_55 : decode cX12_pours 55 = .ok (.return_, 1) := by decide +kernel
theorem dX12_dips_0 : decode cX12_dips 0 = .ok (.aload_n 0, 1) := by decide +kernel
theorem dX12_dips_1 : decode cX12_dips 1 = .ok (.getfield 71, 3) := by decide +kernel
theorem dX12_dips_4 : decode cX12_dips 4 = .ok (.iload_n 1, 1) := by decide +kernel
theorem dX12_dips_5 : decode cX12_dips 5 = .ok (.iaload, 1) := by decide +kernel
theorem dX12_dips_6 : decode cX12_dips 6 = .ok (.aload_n 0, 1) := by decide +kernel
theorem dX12_dips_7 : decode cX12_dips 7 = .ok (.getfield 13, 3) := by decide +kernel
theorem dX12_dips_10 : decode cX12_dips 10 = .ok (.iload_n 1, 1) := by decide +kernel
theorem dX12_dips_11 : decode cX12_dips 11 = .ok (.iaload, 1) := by decide +kernel
theorem dX12_dips_12 : decode cX12_dips 12 = .ok (.if_icmp .ne 16, 3) := by decide +kernel
theorem dX12_dips_15 : decode cX12_dips 15 = .ok (.aload_n 0, 1) := by decide +kernel
theorem dX12_dips_16 : decode cX12_dips 16 = .ok (.aload_n 0, 1) := by decide +kernel
theorem dX12_dips_17 : decode cX12_dips 17 = .ok (.getfield 292, 3) := by decide +kernel
theorem dX12_dips_20 : decode cX12_dips 20 = .ok (.iconst 1, 1) := by decide +kernel
theorem dX12_dips_21 : decode cX12_dips 21 = .ok (.iadd, 1) := by decide +kernel
theorem dX12_dips_22 : decode cX12_dips 22 = .ok (.putfield 292, 3) := by decide +kernel
theorem dX12_dips_25 : decode cX12_dips 25 = .ok (.goto 17, 3) := by decide +kernel
theorem dX12_dips_28 : decode cX12_dips 28 = .ok (.aload_n 0, 1) := by decide +kernel
theorem dX12_dips_29 : decode cX12_dips 29 = .ok (.getfield 71, 3) := by decide +kernel
theorem dX12_dips_32 : decode cX12_dips 32 = .ok (.iload_n 1, 1) := by decide +kernel
theorem dX12_dips_33 : decode cX12_dips 33 = .ok (.aload_n 0, 1) := by decide +kernel
theorem dX12_dips_34 : decode cX12_dips 34 = .ok (.getfield 71, 3) := by decide +kernel
theorem dX12_dips_37 : decode cX12_dips 37 = .ok (.iload_n 1, 1) := by decide +kernel
theorem dX12_dips_38 : decode cX12_dips 38 = .ok (.iaload, 1) := by decide +kernel
theorem dX12_dips_39 : decode cX12_dips 39 = .ok (.iconst 1, 1) := by decide +kernel
theorem dX12_dips_40 : decode cX12_dips 40 = .ok (.iadd, 1) := by decide +kernel
theorem dX12_dips_41 : decode cX12_dips 41 = .ok (.iastore, 1) := by decide +kernel
theorem dX12_dips_42 : decode cX12_dips 42 = .ok (.return_, 1) := by decide +kernel
theorem dX12_takesOut_0 : decode cX12_takesOut 0 = .ok (.aload_n 0, 1) := by decide +kernel
theorem dX12_takesOut_1 : decode cX12_takesOut 1 = .ok (.getfield 71, 3) := by decide +kernel
theorem dX12_takesOut_4 : decode cX12_takesOut 4 = .ok (.iload_n 1, 1) := by decide +kernel
theorem dX12_takesOut_5 : decode cX12_takesOut 5 = .ok (.iaload, 1) := by decide +kernel
theorem dX12_takesOut_6 : decode cX12_takesOut 6 = .ok (.ifCond .ne 4, 3) := by decide +kernel
theorem dX12_takesOut_9 : decode cX12_takesOut 9 = .ok (.return_, 1) := by decide +kernel
theorem dX12_takesOut_10 : decode cX12_takesOut 10 = .ok (.aload_n 0, 1) := by decide +kernel
theorem dX12_takesOut_11 : decode cX12_takesOut 11 = .ok (.getfield 71, 3) := by decide +kernel
theorem dX12_takesOut_14 : decode cX12_takesOut 14 = .ok (.iload_n 1, 1) := by decide +kernel
theorem dX12_takesOut_15 : decode cX12_takesOut 15 = .ok (.aload_n 0, 1) := by decide +kernel
theorem dX12_takesOut_16 : decode cX12_takesOut 16 = .ok (.getfield 71, 3) := by decide +kernel
theorem dX12_takesOut_19 : decode cX12_takesOut 19 = .ok (.iload_n 1, 1) := by decide +kernel
theorem dX12_takesOut_20 : decode cX12_takesOut 20 = .ok (.iaload, 1) := by decide +kernel
theorem dX12_takesOut_21 : decode cX12_takesOut 21 = .ok (.iconst 1, 1) := by decide +kernel
theorem dX12_takesOut_22 : decode cX12_takesOut 22 = .ok (.isub, 1) := by decide +kernel
theorem dX12_takesOut_23 : decode cX12_takesOut 23 = .ok (.iastore, 1) := by decide +kernel
theorem dX12_takesOut_24 : decode cX12_takesOut 24 = .ok (.aload_n 0, 1) := by decide +kernel
theorem dX12_takesOut_25 : decode cX12_takesOut 25 = .ok (.aload_n 0, 1) := by decide +kernel
theorem dX12_takesOut_26 : decode cX12_takesOut 26 = .ok (.getfield 295, 3) := by decide +kernel
theorem dX12_takesOut_29 : decode cX12_takesOut 29 = .ok (.iconst 1, 1) := by decide +kernel
theorem dX12_takesOut_30 : decode cX12_takesOut 30 = .ok (.iadd, 1) := by decide +kernel
theorem dX12_takesOut_31 : decode cX12_takesOut 31 = .ok (.putfield 295, 3) := by decide +kernel
theorem dX12_takesOut_34 : decode cX12_takesOut 34 = .ok (.aload_n 0, 1) := by decide +kernel
theorem dX12_takesOut_35 : decode cX12_takesOut 35 = .ok (.bipush 7, 2) := by decide +kernel
theorem dX12_takesOut_37 : decode cX12_takesOut 37 = .ok (.aload_n 0, 1) := by decide +kernel
theorem dX12_takesOut_38 : decode cX12_takesOut 38 = .ok (.getfield 298, 3) := by decide +kernel
theorem dX12_takesOut_41 : decode cX12_takesOut 41 = .ok (.imul, 1) := by decide +kernel
theorem dX12_takesOut_42 : decode cX12_takesOut 42 = .ok (.iload_n 1, 1) := by decide +kernel
theorem dX12_takesOut_43 : decode cX12_takesOut 43 = .ok (.iadd, 1) := by decide +kernel
theorem dX12_takesOut_44 : decode cX12_takesOut 44 = .ok (.iconst 1, 1) := by decide +kernel
theorem dX12_takesOut_45 : decode cX12_takesOut 45 = .ok (.iadd, 1) := by decide +kernel
theorem dX12_takesOut_46 : decode cX12_takesOut 46 = .ok (.sipush 1009, 3) := by decide +kernel
theorem dX12_takesOut_49 : decode cX12_takesOut 49 = .ok (.irem, 1) := by decide +kernel
theorem dX12_takesOut_50 : decode cX12_takesOut 50 = .ok (.putfield 298, 3) := by decide +kernel
theorem dX12_takesOut_53 : decode cX12_takesOut 53 = .ok (.return_, 1) := by decide +kernel
theorem dX12_does_0 : decode cX12_does 0 = .ok (.iload_n 1, 1) := by decide +kernel
theorem dX12_does_1 : decode cX12_does 1 = .ok (.ifCond .ne 8, 3) := by decide +kernel
theorem dX12_does_4 : decode cX12_does 4 = .ok (.aload_n 0, 1) := by decide +kernel
theorem dX12_does_5 : decode cX12_does 5 = .ok (.iload_n 2, 1) := by decide +kernel
theorem dX12_does_6 : decode cX12_does 6 = .ok (.invokevirtual 308, 3) := by decide +kernel
theorem dX12_does_9 : decode cX12_does 9 = .ok (.iload_n 1, 1) := by decide +kernel
theorem dX12_does_10 : decode cX12_does 10 = .ok (.iconst 1, 1) := by decide +kernel
theorem dX12_does_11 : decode cX12_does 11 = .ok (.if_icmp .ne 8, 3) := by decide +kernel
theorem dX12_does_14 : decode cX12_does 14 = .ok (.aload_n 0, 1) := by decide +kernel
theorem dX12_does_15 : decode cX12_does 15 = .ok (.iload_n 2, 1) := by decide +kernel
theorem dX12_does_16 : decode cX12_does 16 = .ok (.invokevirtual 311, 3) := by decide +kernel
theorem dX12_does_19 : decode cX12_does 19 = .ok (.iload_n 1, 1) := by decide +kernel
theorem dX12_does_20 : decode cX12_does 20 = .ok (.iconst 2, 1) := by decide +kernel
theorem dX12_does_21 : decode cX12_does 21 = .ok (.if_icmp .ne 15, 3) := by decide +kernel
theorem dX12_does_24 : decode cX12_does 24 = .ok (.aload_n 0, 1) := by decide +kernel
theorem dX12_does_25 : decode cX12_does 25 = .ok (.iload_n 2, 1) := by decide +kernel
theorem dX12_does_26 : decode cX12_does 26 = .ok (.iload_n 3, 1) := by decide +kernel
theorem dX12_does_27 : decode cX12_does 27 = .ok (.aload_n 0, 1) := by decide +kernel
theorem dX12_does_28 : decode cX12_does 28 = .ok (.getfield 71, 3) := by decide +kernel
theorem dX12_does_31 : decode cX12_does 31 = .ok (.iload_n 2, 1) := by decide +kernel
theorem dX12_does_32 : decode cX12_does 32 = .ok (.iaload, 1) := by decide +kernel
theorem dX12_does_33 : decode cX12_does 33 = .ok (.invokevirtual 314, 3) := by decide +kernel
theorem dX12_does_36 : decode cX12_does 36 = .ok (.iload_n 1, 1) := by decide +kernel
theorem dX12_does_37 : decode cX12_does 37 = .ok (.iconst 3, 1) := by decide +kernel
theorem dX12_does_38 : decode cX12_does 38 = .ok (.if_icmp .ne 17, 3) := by decide +kernel
theorem dX12_does_41 : decode cX12_does 41 = .ok (.aload_n 0, 1) := by decide +kernel
theorem dX12_does_42 : decode cX12_does 42 = .ok (.iload_n 2, 1) := by decide +kernel
theorem dX12_does_43 : decode cX12_does 43 = .ok (.iload_n 3, 1) := by decide +kernel
theorem dX12_does_44 : decode cX12_does 44 = .ok (.aload_n 0, 1) := by decide +kernel
theorem dX12_does_45 : decode cX12_does 45 = .ok (.getfield 71, 3) := by decide +kernel
theorem dX12_does_48 : decode cX12_does 48 = .ok (.iload_n 2, 1) := by decide +kernel
theorem dX12_does_49 : decode cX12_does 49 = .ok (.iaload, 1) := by decide +kernel
theorem dX12_does_50 : decode cX12_does 50 = .ok (.iconst 2, 1) := by decide +kernel
theorem dX12_does_51 : decode cX12_does 51 = .ok (.idiv, 1) := by decide +kernel
theorem dX12_does_52 : decode cX12_does 52 = .ok (.invokevirtual 314, 3) := by decide +kernel
theorem dX12_does_55 : decode cX12_does 55 = .ok (.return_, 1) := by decide +kernel
theorem dX12_kindsWork_0 : decode cX12_kindsWork 0 = .ok (.iconst 0, 1) := by decide +kernel
theorem dX12_kindsWork_1 : decode cX12_kindsWork 1 = .ok (.istore_n 1, 1) := by decide +kernel
theorem dX12_kindsWork_2 : decode cX12_kindsWork 2 = .ok (.iload_n 1, 1) := by decide +kernel
theorem dX12_kindsWork_3 : decode cX12_kindsWork 3 = .ok (.bipush 6, 2) := by decide +kernel
theorem dX12_kindsWork_5 : decode cX12_kindsWork 5 = .ok (.if_icmp .ge 55, 3) := by decide +kernel
theorem dX12_kindsWork_8 : decode cX12_kindsWork 8 = .ok (.aload_n 0, 1) := by decide +kernel
theorem dX12_kindsWork_9 : decode cX12_kindsWork 9 = .ok (.getfield 7, 3) := by decide +kernel
theorem dX12_kindsWork_12 : decode cX12_kindsWork 12 = .ok (.iload_n 1, 1) := by decide +kernel
theorem dX12_kindsWork_13 : decode cX12_kindsWork 13 = .ok (.iaload, 1) := by decide +kernel
theorem dX12_kindsWork_14 : decode cX12_kindsWork 14 = .ok (.iconst 1, 1) := by decide +kernel
theorem dX12_kindsWork_15 : decode cX12_kindsWork 15 = .ok (.if_icmp .ne 39, 3) := by decide +kernel
theorem dX12_kindsWork_18 : decode cX12_kindsWork 18 = .ok (.aload_n 0, 1) := by decide +kernel
theorem dX12_kindsWork_19 : decode cX12_kindsWork 19 = .ok (.getfield 71, 3) := by decide +kernel
theorem dX12_kindsWork_22 : decode cX12_kindsWork 22 = .ok (.iload_n 1, 1) := by decide +kernel
theorem dX12_kindsWork_23 : decode cX12_kindsWork 23 = .ok (.iaload, 1) := by decide +kernel
theorem dX12_kindsWork_24 : decode cX12_kindsWork 24 = .ok (.ifCond .ne 6, 3) := by decide +kernel
theorem dX12_kindsWork_27 : decode cX12_kindsWork 27 = .ok (.goto 27, 3) := by decide +kernel
theorem dX12_kindsWork_30 : decode cX12_kindsWork 30 = .ok (.aload_n 0, 1) := by decide +kernel
theorem dX12_kindsWork_31 : decode cX12_kindsWork 31 = .ok (.getfield 71, 3) := by decide +kernel
theorem dX12_kindsWork_34 : decode cX12_kindsWork 34 = .ok (.iload_n 1, 1) := by decide +kernel
theorem dX12_kindsWork_35 : decode cX12_kindsWork 35 = .ok (.aload_n 0, 1) := by decide +kernel
theorem dX12_kindsWork_36 : decode cX12_kindsWork 36 = .ok (.getfield 71, 3) := by decide +kernel
theorem dX12_kindsWork_39 : decode cX12_kindsWork 39 = .ok (.iload_n 1, 1) := by decide +kernel
theorem dX12_kindsWork_40 : decode cX12_kindsWork 40 = .ok (.iaload, 1) := by decide +kernel
theorem dX12_kindsWork_41 : decode cX12_kindsWork 41 = .ok (.iconst 1, 1) := by decide +kernel
theorem dX12_kindsWork_42 : decode cX12_kindsWork 42 = .ok (.isub, 1) := by decide +kernel
theorem dX12_kindsWork_43 : decode cX12_kindsWork 43 = .ok (.iastore, 1) := by decide +kernel
theorem dX12_kindsWork_44 : decode cX12_kindsWork 44 = .ok (.aload_n 0, 1) := by decide +kernel
theorem dX12_kindsWork_45 : decode cX12_kindsWork 45 = .ok (.aload_n 0, 1) := by decide +kernel
theorem dX12_kindsWork_46 : decode cX12_kindsWork 46 = .ok (.getfield 292, 3) := by decide +kernel
theorem dX12_kindsWork_49 : decode cX12_kindsWork 49 = .ok (.iconst 1, 1) := by decide +kernel
theorem dX12_kindsWork_50 : decode cX12_kindsWork 50 = .ok (.iadd, 1) := by decide +kernel
theorem dX12_kindsWork_51 : decode cX12_kindsWork 51 = .ok (.putfield 292, 3) := by decide +kernel
theorem dX12_kindsWork_54 : decode cX12_kindsWork 54 = .ok (.iinc 1 1, 3) := by decide +kernel
theorem dX12_kindsWork_57 : decode cX12_kindsWork 57 = .ok (.goto (-55), 3) := by decide +kernel
theorem dX12_kindsWork_60 : decode cX12_kindsWork 60 = .ok (.iconst 0, 1) := by decide +kernel
theorem dX12_kindsWork_61 : decode cX12_kindsWork 61 = .ok (.istore_n 1, 1) := by decide +kernel
theorem dX12_kindsWork_62 : decode cX12_kindsWork 62 = .ok (.iload_n 1, 1) := by decide +kernel
theorem dX12_kindsWork_63 : decode cX12_kindsWork 63 = .ok (.bipush 6, 2) := by decide +kernel
theorem dX12_kindsWork_65 : decode cX12_kindsWork 65 = .ok (.if_icmp .ge 95, 3) := by decide +kernel
theorem dX12_kindsWork_68 : decode cX12_kindsWork 68 = .ok (.iload_n 1, 1) := by decide +kernel
theorem dX12_kindsWork_69 : decode cX12_kindsWork 69 = .ok (.iconst 5, 1) := by decide +kernel
theorem dX12_kindsWork_70 : decode cX12_kindsWork 70 = .ok (.if_icmp .ne 7, 3) := by decide +kernel
theorem dX12_kindsWork_73 : decode cX12_kindsWork 73 = .ok (.iconst 0, 1) := by decide +kernel
theorem dX12_kindsWork_74 : decode cX12_kindsWork 74 = .ok (.goto 6, 3) := by decide +kernel
theorem dX12_kindsWork_77 : decode cX12_kindsWork 77 = .ok (.iload_n 1, 1) := by decide +kernel
theorem dX12_kindsWork_78 : decode cX12_kindsWork 78 = .ok (.iconst 1, 1) := by decide +kernel
theorem dX12_kindsWork_79 : decode cX12_kindsWork 79 = .ok (.iadd, 1) := by decide +kernel
theorem dX12_kindsWork_80 : decode cX12_kindsWork 80 = .ok (.istore_n 2, 1) := by decide +kernel
theorem dX12_kindsWork_81 : decode cX12_kindsWork 81 = .ok (.aload_n 0, 1) := by decide +kernel
theorem dX12_kindsWork_82 : decode cX12_kindsWork 82 = .ok (.getfield 7, 3) := by decide +kernel
theorem dX12_kindsWork_85 : decode cX12_kindsWork 85 = .ok (.iload_n 1, 1) := by decide +kernel
theorem dX12_kindsWork_86 : decode cX12_kindsWork 86 = .ok (.iaload, 1) := by decide +kernel
theorem dX12_kindsWork_87 : decode cX12_kindsWork 87 = .ok (.iconst 3, 1) := by decide +kernel
theorem dX12_kindsWork_88 : decode cX12_kindsWork 88 = .ok (.if_icmp .ne 66, 3) := by decide +kernel
theorem dX12_kindsWork_91 : decode cX12_kindsWork 91 = .ok (.aload_n 0, 1) := by decide +kernel
theorem dX12_kindsWork_92 : decode cX12_kindsWork 92 = .ok (.getfield 71, 3) := by decide +kernel
theorem dX12_kindsWork_95 : decode cX12_kindsWork 95 = .ok (.iload_n 1, 1) := by decide +kernel
theorem dX12_kindsWork_96 : decode cX12_kindsWork 96 = .ok (.iaload, 1) := by decide +kernel
theorem dX12_kindsWork_97 : decode cX12_kindsWork 97 = .ok (.aload_n 0, 1) := by decide +kernel
theorem dX12_kindsWork_98 : decode cX12_kindsWork 98 = .ok (.getfield 71, 3) := by decide +kernel
theorem dX12_kindsWork_101 : decode cX12_kindsWork 101 = .ok (.iload_n 2, 1) := by decide +kernel
theorem dX12_kindsWork_102 : decode cX12_kindsWork 102 = .ok (.iaload, 1) := by decide +kernel
theorem dX12_kindsWork_103 : decode cX12_kindsWork 103 = .ok (.iconst 2, 1) := by decide +kernel
theorem dX12_kindsWork_104 : decode cX12_kindsWork 104 = .ok (.iadd, 1) := by decide +kernel
theorem dX12_kindsWork_105 : decode cX12_kindsWork 105 = .ok (.if_icmp .lt 49, 3) := by decide +kernel
theorem dX12_kindsWork_108 : decode cX12_kindsWork 108 = .ok (.aload_n 0, 1) := by decide +kernel
theorem dX12_kindsWork_109 : decode cX12_kindsWork 109 = .ok (.getfield 71, 3) := by decide +kernel
theorem dX12_kindsWork_112 : decode cX12_kindsWork 112 = .ok (.iload_n 2, 1) := by decide +kernel
theorem dX12_kindsWork_113 : decode cX12_kindsWork 113 = .ok (.iaload, 1) := by decide +kernel
theorem dX12_kindsWork_114 : decode cX12_kindsWork 114 = .ok (.aload_n 0, 1) := by decide +kernel
theorem dX12_kindsWork_115 : decode cX12_kindsWork 115 = .ok (.getfield 13, 3) := by decide +kernel
theorem dX12_kindsWork_118 : decode cX12_kindsWork 118 = .ok (.iload_n 2, 1) := by decide +kernel
theorem dX12_kindsWork_119 : decode cX12_kindsWork 119 = .ok (.iaload, 1) := by decide +kernel
theorem dX12_kindsWork_120 : decode cX12_kindsWork 120 = .ok (.if_icmp .lt 6, 3) := by decide +kernel
theorem dX12_kindsWork_123 : decode cX12_kindsWork 123 = .ok (.goto 31, 3) := by decide +kernel
theorem dX12_kindsWork_126 : decode cX12_kindsWork 126 = .ok (.aload_n 0, 1) := by decide +kernel
theorem dX12_kindsWork_127 : decode cX12_kindsWork 127 = .ok (.getfield 71, 3) := by decide +kernel
theorem dX12_kindsWork_130 : decode cX12_kindsWork 130 = .ok (.iload_n 1, 1) := by decide +kernel
theorem dX12_kindsWork_131 : decode cX12_kindsWork 131 = .ok (.aload_n 0, 1) := by decide +kernel
theorem dX12_kindsWork_132 : decode cX12_kindsWork 132 = .ok (.getfield 71, 3) := by decide +kernel
theorem dX12_kindsWork_135 : decode cX12_kindsWork 135 = .ok (.iload_n 1, 1) := by decide +kernel
theorem dX12_kindsWork_136 : decode cX12_kindsWork 136 = .ok (.iaload, 1) := by decide +kernel
theorem dX12_kindsWork_137 : decode cX12_kindsWork 137 = .ok (.iconst 1, 1) := by decide +kernel
theorem dX12_kindsWork_138 : decode cX12_kindsWork 138 = .ok (.isub, 1) := by decide +kernel
theorem dX12_kindsWork_139 : decode cX12_kindsWork 139 = .ok (.iastore, 1) := by decide +kernel
theorem dX12_kindsWork_140 : decode cX12_kindsWork 140 = .ok (.aload_n 0, 1) := by decide +kernel
theorem dX12_kindsWork_141 : decode cX12_kindsWork 141 = .ok (.getfield 71, 3) := by decide +kernel
theorem dX12_kindsWork_144 : decode cX12_kindsWork 144 = .ok (.iload_n 2, 1) := by decide +kernel
theorem dX12_kindsWork_145 : decode cX12_kindsWork 145 = .ok (.aload_n 0, 1) := by decide +kernel
theorem dX12_kindsWork_146 : decode cX12_kindsWork 146 = .ok (.getfield 71, 3) := by decide +kernel
theorem dX12_kindsWork_149 : decode cX12_kindsWork 149 = .ok (.iload_n 2, 1) := by decide +kernel
theorem dX12_kindsWork_150 : decode cX12_kindsWork 150 = .ok (.iaload, 1) := by decide +kernel
theorem dX12_kindsWork_151 : decode cX12_kindsWork 151 = .ok (.iconst 1, 1) := by decide +kernel
theorem dX12_kindsWork_152 : decode cX12_kindsWork 152 = .ok (.iadd, 1) := by decide +kernel
theorem dX12_kindsWork_153 : decode cX12_kindsWork 153 = .ok (.iastore, 1) := by decide +kernel
theorem dX12_kindsWork_154 : decode cX12_kindsWork 154 = .ok (.iinc 1 1, 3) := by decide +kernel
theorem dX12_kindsWork_157 : decode cX12_kindsWork 157 = .ok (.goto (-95), 3) := by decide +kernel
theorem dX12_kindsWork_160 : decode cX12_kindsWork 160 = .ok (.return_, 1) := by decide +kernel
theorem dX12_goesOn_0 : decode cX12_goesOn 0 = .ok (.aload_n 0, 1) := by decide +kernel
theorem dX12_goesOn_1 : decode cX12_goesOn 1 = .ok (.getfield 286, 3) := by decide +kernel
theorem dX12_goesOn_4 : decode cX12_goesOn 4 = .ok (.aload_n 0, 1) := by decide +kernel
theorem dX12_goesOn_5 : decode cX12_goesOn 5 = .ok (.getfield 56, 3) := by decide +kernel
theorem dX12_goesOn_8 : decode cX12_goesOn 8 = .ok (.iload_n 1, 1) := by decide +kernel
theorem dX12_goesOn_9 : decode cX12_goesOn 9 = .ok (.iaload, 1) := by decide +kernel
theorem dX12_goesOn_10 : decode cX12_goesOn 10 = .ok (.if_icmp .ge 44, 3) := by decide +kernel
theorem dX12_goesOn_13 : decode cX12_goesOn 13 = .ok (.aload_n 0, 1) := by decide +kernel
theorem dX12_goesOn_14 : decode cX12_goesOn 14 = .ok (.getfield 47, 3) := by decide +kernel
theorem dX12_goesOn_17 : decode cX12_goesOn 17 = .ok (.sipush 160, 3) := by decide +kernel
theorem dX12_goesOn_20 : decode cX12_goesOn 20 = .ok (.iload_n 1, 1) := by decide +kernel
theorem dX12_goesOn_21 : decode cX12_goesOn 21 = .ok (.imul, 1) := by decide +kernel
theorem dX12_goesOn_22 : decode cX12_goesOn 22 = .ok (.aload_n 0, 1) := by decide +kernel
theorem dX12_goesOn_23 : decode cX12_goesOn 23 = .ok (.getfield 286, 3) := by decide +kernel
theorem dX12_goesOn_26 : decode cX12_goesOn 26 = .ok (.iadd, 1) := by decide +kernel
theorem dX12_goesOn_27 : decode cX12_goesOn 27 = .ok (.iaload, 1) := by decide +kernel
theorem dX12_goesOn_28 : decode cX12_goesOn 28 = .ok (.iconst 5, 1) := by decide +kernel
theorem dX12_goesOn_29 : decode cX12_goesOn 29 = .ok (.if_icmp .ne 25, 3) := by decide +kernel
theorem dX12_goesOn_32 : decode cX12_goesOn 32 = .ok (.aload_n 0, 1) := by decide +kernel
theorem dX12_goesOn_33 : decode cX12_goesOn 33 = .ok (.aload_n 0, 1) := by decide +kernel
theorem dX12_goesOn_34 : decode cX12_goesOn 34 = .ok (.getfield 53, 3) := by decide +kernel
theorem dX12_goesOn_37 : decode cX12_goesOn 37 = .ok (.sipush 160, 3) := by decide +kernel
theorem dX12_goesOn_40 : decode cX12_goesOn 40 = .ok (.iload_n 1, 1) := by decide +kernel
theorem dX12_goesOn_41 : decode cX12_goesOn 41 = .ok (.imul, 1) := by decide +kernel
theorem dX12_goesOn_42 : decode cX12_goesOn 42 = .ok (.aload_n 0, 1) := by decide +kernel
theorem dX12_goesOn_43 : decode cX12_goesOn 43 = .ok (.getfield 286, 3) := by decide +kernel
theorem dX12_goesOn_46 : decode cX12_goesOn 46 = .ok (.iadd, 1) := by decide +kernel
theorem dX12_goesOn_47 : decode cX12_goesOn 47 = .ok (.iaload, 1) := by decide +kernel
theorem dX12_goesOn_48 : decode cX12_goesOn 48 = .ok (.putfield 286, 3) := by decide +kernel
theorem dX12_goesOn_51 : decode cX12_goesOn 51 = .ok (.goto (-51), 3) := by decide +kernel
theorem dX12_goesOn_54 : decode cX12_goesOn 54 = .ok (.return_, 1) := by decide +kernel
theorem dX12_steps_0 : decode cX12_steps 0 = .ok (.sipush 160, 3) := by decide +kernel
theorem dX12_steps_3 : decode cX12_steps 3 = .ok (.iload_n 1, 1) := by decide +kernel
theorem dX12_steps_4 : decode cX12_steps 4 = .ok (.imul, 1) := by decide +kernel
theorem dX12_steps_5 : decode cX12_steps 5 = .ok (.aload_n 0, 1) := by decide +kernel
theorem dX12_steps_6 : decode cX12_steps 6 = .ok (.getfield 286, 3) := by decide +kernel
theorem dX12_steps_9 : decode cX12_steps 9 = .ok (.iadd, 1) := by decide +kernel
theorem dX12_steps_10 : decode cX12_steps 10 = .ok (.istore_n 3, 1) := by decide +kernel
theorem dX12_steps_11 : decode cX12_steps 11 = .ok (.aload_n 0, 1) := by decide +kernel
theorem dX12_steps_12 : decode cX12_steps 12 = .ok (.getfield 47, 3) := by decide +kernel
theorem dX12_steps_15 : decode cX12_steps 15 = .ok (.iload_n 3, 1) := by decide +kernel
theorem dX12_steps_16 : decode cX12_steps 16 = .ok (.iaload, 1) := by decide +kernel
theorem dX12_steps_17 : decode cX12_steps 17 = .ok (.istore 4, 2) := by decide +kernel
theorem dX12_steps_19 : decode cX12_steps 19 = .ok (.aload_n 0, 1) := by decide +kernel
theorem dX12_steps_20 : decode cX12_steps 20 = .ok (.aload_n 0, 1) := by decide +kernel
theorem dX12_steps_21 : decode cX12_steps 21 = .ok (.getfield 286, 3) := by decide +kernel
theorem dX12_steps_24 : decode cX12_steps 24 = .ok (.iconst 1, 1) := by decide +kernel
theorem dX12_steps_25 : decode cX12_steps 25 = .ok (.iadd, 1) := by decide +kernel
theorem dX12_steps_26 : decode cX12_steps 26 = .ok (.putfield 286, 3) := by decide +kernel
theorem dX12_steps_29 : decode cX12_steps 29 = .ok (.aload_n 0, 1) := by decide +kernel
theorem dX12_steps_30 : decode cX12_steps 30 = .ok (.aload_n 0, 1) := by decide +kernel
theorem dX12_steps_31 : decode cX12_steps 31 = .ok (.getfield 289, 3) := by decide +kernel
theorem dX12_steps_34 : decode cX12_steps 34 = .ok (.iconst 1, 1) := by decide +kernel
theorem dX12_steps_35 : decode cX12_steps 35 = .ok (.iadd, 1) := by decide +kernel
theorem dX12_steps_36 : decode cX12_steps 36 = .ok (.putfield 289, 3) := by decide +kernel
theorem dX12_steps_39 : decode cX12_steps 39 = .ok (.iload 4, 2) := by decide +kernel
theorem dX12_steps_41 : decode cX12_steps 41 = .ok (.iconst 4, 1) := by decide +kernel
theorem dX12_steps_42 : decode cX12_steps 42 = .ok (.if_icmp .ne 45, 3) := by decide +kernel
theorem dX12_steps_45 : decode cX12_steps 45 = .ok (.aload_n 0, 1) := by decide +kernel
theorem dX12_steps_46 : decode cX12_steps 46 = .ok (.getfield 71, 3) := by decide +kernel
theorem dX12_steps_49 : decode cX12_steps 49 = .ok (.aload_n 0, 1) := by decide +kernel
theorem dX12_steps_50 : decode cX12_steps 50 = .ok (.getfield 50, 3) := by decide +kernel
theorem dX12_steps_53 : decode cX12_steps 53 = .ok (.iload_n 3, 1) := by decide +kernel
theorem dX12_steps_54 : decode cX12_steps 54 = .ok (.iaload, 1) := by decide +kernel
theorem dX12_steps_55 : decode cX12_steps 55 = .ok (.iaload, 1) := by decide +kernel
theorem dX12_steps_56 : decode cX12_steps 56 = .ok (.ifCond .eq 18, 3) := by decide +kernel
theorem dX12_steps_59 : decode cX12_steps 59 = .ok (.aload_n 0, 1) := by decide +kernel
theorem dX12_steps_60 : decode cX12_steps 60 = .ok (.getfield 7, 3) := by decide +kernel
theorem dX12_steps_63 : decode cX12_steps 63 = .ok (.aload_n 0, 1) := by decide +kernel
theorem dX12_steps_64 : decode cX12_steps 64 = .ok (.getfield 50, 3) := by decide +kernel
theorem dX12_steps_67 : decode cX12_steps 67 = .ok (.iload_n 3, 1) := by decide +kernel
theorem dX12_steps_68 : decode cX12_steps 68 = .ok (.iaload, 1) := by decide +kernel
theorem dX12_steps_69 : decode cX12_steps 69 = .ok (.iaload, 1) := by decide +kernel
theorem dX12_steps_70 : decode cX12_steps 70 = .ok (.iconst 2, 1) := by decide +kernel
theorem dX12_steps_71 : decode cX12_steps 71 = .ok (.if_icmp .ne 64, 3) := by decide +kernel
theorem dX12_steps_74 : decode cX12_steps 74 = .ok (.aload_n 0, 1) := by decide +kernel
theorem dX12_steps_75 : decode cX12_steps 75 = .ok (.aload_n 0, 1) := by decide +kernel
theorem dX12_steps_76 : decode cX12_steps 76 = .ok (.getfield 53, 3) := by decide +kernel
theorem dX12_steps_79 : decode cX12_steps 79 = .ok (.iload_n 3, 1) := by decide +kernel
theorem dX12_steps_80 : decode cX12_steps 80 = .ok (.iaload, 1) := by decide +kernel
theorem dX12_steps_81 : decode cX12_steps 81 = .ok (.putfield 286, 3) := by decide +kernel
theorem dX12_steps_84 : decode cX12_steps 84 = .ok (.goto 51, 3) := by decide +kernel
theorem dX12_steps_87 : decode cX12_steps 87 = .ok (.iload 4, 2) := by decide +kernel
theorem dX12_steps_89 : decode cX12_steps 89 = .ok (.bipush 6, 2) := by decide +kernel
theorem dX12_steps_91 : decode cX12_steps 91 = .ok (.if_icmp .ne 11, 3) := by decide +kernel
theorem dX12_steps_94 : decode cX12_steps 94 = .ok (.aload_n 0, 1) := by decide +kernel
theorem dX12_steps_95 : decode cX12_steps 95 = .ok (.iconst 2, 1) := by decide +kernel
theorem dX12_steps_96 : decode cX12_steps 96 = .ok (.putfield 301, 3) := by decide +kernel
theorem dX12_steps_99 : decode cX12_steps 99 = .ok (.goto 36, 3) := by decide +kernel
theorem dX12_steps_102 : decode cX12_steps 102 = .ok (.iconst 0, 1) := by decide +kernel
theorem dX12_steps_103 : decode cX12_steps 103 = .ok (.istore 5, 2) := by decide +kernel
theorem dX12_steps_105 : decode cX12_steps 105 = .ok (.iload 5, 2) := by decide +kernel
theorem dX12_steps_107 : decode cX12_steps 107 = .ok (.iload_n 2, 1) := by decide +kernel
theorem dX12_steps_108 : decode cX12_steps 108 = .ok (.if_icmp .ge 27, 3) := by decide +kernel
theorem dX12_steps_111 : decode cX12_steps 111 = .ok (.aload_n 0, 1) := by decide +kernel
theorem dX12_steps_112 : decode cX12_steps 112 = .ok (.iload 4, 2) := by decide +kernel
theorem dX12_steps_114 : decode cX12_steps 114 = .ok (.aload_n 0, 1) := by decide +kernel
theorem dX12_steps_115 : decode cX12_steps 115 = .ok (.getfield 50, 3) := by decide +kernel
theorem dX12_steps_118 : decode cX12_steps 118 = .ok (.iload_n 3, 1) := by decide +kernel
theorem dX12_steps_119 : decode cX12_steps 119 = .ok (.iaload, 1) := by decide +kernel
theorem dX12_steps_120 : decode cX12_steps 120 = .ok (.aload_n 0, 1) := by decide +kernel
theorem dX12_steps_121 : decode cX12_steps 121 = .ok (.getfield 53, 3) := by decide +kernel
theorem dX12_steps_124 : decode cX12_steps 124 = .ok (.iload_n 3, 1) := by decide +kernel
theorem dX12_steps_125 : decode cX12_steps 125 = .ok (.iaload, 1) := by decide +kernel
theorem dX12_steps_126 : decode cX12_steps 126 = .ok (.invokevirtual 317, 3) := by decide +kernel
theorem dX12_steps_129 : decode cX12_steps 129 = .ok (.iinc 5 1, 3) := by decide +kernel
theorem dX12_steps_132 : decode cX12_steps 132 = .ok (.goto (-27), 3) := by decide +kernel
theorem dX12_steps_135 : decode cX12_steps 135 = .ok (.aload_n 0, 1) := by decide +kernel
theorem dX12_steps_136 : decode cX12_steps 136 = .ok (.invokevirtual 320, 3) := by decide +kernel
theorem dX12_steps_139 : decode cX12_steps 139 = .ok (.aload_n 0, 1) := by decide +kernel
theorem dX12_steps_140 : decode cX12_steps 140 = .ok (.iload_n 1, 1) := by decide +kernel
theorem dX12_steps_141 : decode cX12_steps 141 = .ok (.invokevirtual 323, 3) := by decide +kernel
theorem dX12_steps_144 : decode cX12_steps 144 = .ok (.return_, 1) := by decide +kernel
theorem dX12_hasNext_0 : decode cX12_hasNext 0 = .ok (.aload_n 0, 1) := by decide +kernel
theorem dX12_hasNext_1 : decode cX12_hasNext 1 = .ok (.getfield 301, 3) := by decide +kernel
theorem dX12_hasNext_4 : decode cX12_hasNext 4 = .ok (.ifCond .ne 20, 3) := by decide +kernel
theorem dX12_hasNext_7 : decode cX12_hasNext 7 = .ok (.aload_n 0, 1) := by decide +kernel
theorem dX12_hasNext_8 : decode cX12_hasNext 8 = .ok (.getfield 286, 3) := by decide +kernel
theorem dX12_hasNext_11 : decode cX12_hasNext 11 = .ok (.aload_n 0, 1) := by decide +kernel
theorem dX12_hasNext_12 : decode cX12_hasNext 12 = .ok (.getfield 56, 3) := by decide +kernel
theorem dX12_hasNext_15 : decode cX12_hasNext 15 = .ok (.iload_n 1, 1) := by decide +kernel
theorem dX12_hasNext_16 : decode cX12_hasNext 16 = .ok (.iaload, 1) := by decide +kernel
theorem dX12_hasNext_17 : decode cX12_hasNext 17 = .ok (.if_icmp .ge 7, 3) := by decide +kernel
theorem dX12_hasNext_20 : decode cX12_hasNext 20 = .ok (.iconst 1, 1) := by decide +kernel
theorem dX12_hasNext_21 : decode cX12_hasNext 21 = .ok (.goto 4, 3) := by decide +kernel
theorem dX12_hasNext_24 : decode cX12_hasNext 24 = .ok (.iconst 0, 1) := by decide +kernel
theorem dX12_hasNext_25 : decode cX12_hasNext 25 = .ok (.ireturn, 1) := by decide +kernel
theorem dX12_runsOn_0 : decode cX12_runsOn 0 = .ok (.aload_n 0, 1) := by decide +kernel
theorem dX12_runsOn_1 : decode cX12_runsOn 1 = .ok (.iload_n 1, 1) := by decide +kernel
theorem dX12_runsOn_2 : decode cX12_runsOn 2 = .ok (.invokevirtual 323, 3) := by decide +kernel
theorem dX12_runsOn_5 : decode cX12_runsOn 5 = .ok (.aload_n 0, 1) := by decide +kernel
theorem dX12_runsOn_6 : decode cX12_runsOn 6 = .ok (.iload_n 1, 1) := by decide +kernel
theorem dX12_runsOn_7 : decode cX12_runsOn 7 = .ok (.invokevirtual 326, 3) := by decide +kernel
theorem dX12_runsOn_10 : decode cX12_runsOn 10 = .ok (.ifCond .eq 20, 3) := by decide +kernel
theorem dX12_runsOn_13 : decode cX12_runsOn 13 = .ok (.aload_n 0, 1) := by decide +kernel
theorem dX12_runsOn_14 : decode cX12_runsOn 14 = .ok (.getfield 289, 3) := by decide +kernel
theorem dX12_runsOn_17 : decode cX12_runsOn 17 = .ok (.iload_n 2, 1) := by decide +kernel
theorem dX12_runsOn_18 : decode cX12_runsOn 18 = .ok (.if_icmp .ge 12, 3) := by decide +kernel
theorem dX12_runsOn_21 : decode cX12_runsOn 21 = .ok (.aload_n 0, 1) := by decide +kernel
theorem dX12_runsOn_22 : decode cX12_runsOn 22 = .ok (.iload_n 1, 1) := by decide +kernel
theorem dX12_runsOn_23 : decode cX12_runsOn 23 = .ok (.iconst 1, 1) := by decide +kernel
theorem dX12_runsOn_24 : decode cX12_runsOn 24 = .ok (.invokevirtual 329, 3) := by decide +kernel
theorem dX12_runsOn_27 : decode cX12_runsOn 27 = .ok (.goto (-22), 3) := by decide +kernel
theorem dX12_runsOn_30 : decode cX12_runsOn 30 = .ok (.aload_n 0, 1) := by decide +kernel
theorem dX12_runsOn_31 : decode cX12_runsOn 31 = .ok (.getfield 301, 3) := by decide +kernel
theorem dX12_runsOn_34 : decode cX12_runsOn 34 = .ok (.ifCond .ne 25, 3) := by decide +kernel
theorem dX12_runsOn_37 : decode cX12_runsOn 37 = .ok (.aload_n 0, 1) := by decide +kernel
theorem dX12_runsOn_38 : decode cX12_runsOn 38 = .ok (.aload_n 0, 1) := by decide +kernel
theorem dX12_runsOn_39 : decode cX12_runsOn 39 = .ok (.getfield 286, 3) := by decide +kernel
theorem dX12_runsOn_42 : decode cX12_runsOn 42 = .ok (.aload_n 0, 1) := by decide +kernel
theorem dX12_runsOn_43 : decode cX12_runsOn 43 = .ok (.getfield 56, 3) := by decide +kernel
theorem dX12_runsOn_46 : decode cX12_runsOn 46 = .ok (.iload_n 1, 1) := by decide +kernel
theorem dX12_runsOn_47 : decode cX12_runsOn 47 = .ok (.iaload, 1) := by decide +kernel
theorem dX12_runsOn_48 : decode cX12_runsOn 48 = .ok (.if_icmp .ge 7, 3) := by decide +kernel
theorem dX12_runsOn_51 : decode cX12_runsOn 51 = .ok (.iconst 3, 1) := by decide +kernel
theorem dX12_runsOn_52 : decode cX12_runsOn 52 = .ok (.goto 4, 3) := by decide +kernel
theorem dX12_runsOn_55 : decode cX12_runsOn 55 = .ok (.iconst 1, 1) := by decide +kernel
theorem dX12_runsOn_56 : decode cX12_runsOn 56 = .ok (.putfield 301, 3) := by decide +kernel
theorem dX12_runsOn_59 : decode cX12_runsOn 59 = .ok (.return_, 1) := by decide +kernel
theorem dX12_specHolds_0 : decode cX12_specHolds 0 = .ok (.aload_n 0, 1) := by decide +kernel
theorem dX12_specHolds_1 : decode cX12_specHolds 1 = .ok (.getfield 239, 3) := by decide +kernel
theorem dX12_specHolds_4 : decode cX12_specHolds 4 = .ok (.ifCond .ne 5, 3) := by decide +kernel
theorem dX12_specHolds_7 : decode cX12_specHolds 7 = .ok (.iconst 1, 1) := by decide +kernel
theorem dX12_specHolds_8 : decode cX12_specHolds 8 = .ok (.ireturn, 1) := by decide +kernel
theorem dX12_specHolds_9 : decode cX12_specHolds 9 = .ok (.iconst 0, 1) := by decide +kernel
theorem dX12_specHolds_10 : decode cX12_specHolds 10 = .ok (.istore_n 1, 1) := by decide +kernel
theorem dX12_specHolds_11 : decode cX12_specHolds 11 = .ok (.iload_n 1, 1) := by decide +kernel
theorem dX12_specHolds_12 : decode cX12_specHolds 12 = .ok (.bipush 6, 2) := by decide +kernel
theorem dX12_specHolds_14 : decode cX12_specHolds 14 = .ok (.if_icmp .ge 36, 3) := by decide +kernel
theorem dX12_specHolds_17 : decode cX12_specHolds 17 = .ok (.aload_n 0, 1) := by decide +kernel
theorem dX12_specHolds_18 : decode cX12_specHolds 18 = .ok (.getfield 35, 3) := by decide +kernel
theorem dX12_specHolds_21 : decode cX12_specHolds 21 = .ok (.iload_n 1, 1) := by decide +kernel
theorem dX12_specHolds_22 : decode cX12_specHolds 22 = .ok (.aload_n 0, 1) := by decide +kernel
theorem dX12_specHolds_23 : decode cX12_specHolds 23 = .ok (.getfield 68, 3) := by decide +kernel
theorem dX12_specHolds_26 : decode cX12_specHolds 26 = .ok (.iload_n 1, 1) := by decide +kernel
theorem dX12_specHolds_27 : decode cX12_specHolds 27 = .ok (.iaload, 1) := by decide +kernel
theorem dX12_specHolds_28 : decode cX12_specHolds 28 = .ok (.iastore, 1) := by decide +kernel
theorem dX12_specHolds_29 : decode cX12_specHolds 29 = .ok (.aload_n 0, 1) := by decide +kernel
theorem dX12_specHolds_30 : decode cX12_specHolds 30 = .ok (.getfield 35, 3) := by decide +kernel
theorem dX12_specHolds_33 : decode cX12_specHolds 33 = .ok (.bipush 6, 2) := by decide +kernel
theorem dX12_specHolds_35 : decode cX12_specHolds 35 = .ok (.iload_n 1, 1) := by decide +kernel
theorem dX12_specHolds_36 : decode cX12_specHolds 36 = .ok (.iadd, 1) := by decide +kernel
theorem dX12_specHolds_37 : decode cX12_specHolds 37 = .ok (.aload_n 0, 1) := by decide +kernel
theorem dX12_specHolds_38 : decode cX12_specHolds 38 = .ok (.getfield 71, 3) := by decide +kernel
theorem dX12_specHolds_41 : decode cX12_specHolds 41 = .ok (.iload_n 1, 1) := by decide +kernel
theorem dX12_specHolds_42 : decode cX12_specHolds 42 = .ok (.iaload, 1) := by decide +kernel
theorem dX12_specHolds_43 : decode cX12_specHolds 43 = .ok (.iastore, 1) := by decide +kernel
theorem dX12_specHolds_44 : decode cX12_specHolds 44 = .ok (.iinc 1 1, 3) := by decide +kernel
theorem dX12_specHolds_47 : decode cX12_specHolds 47 = .ok (.goto (-36), 3) := by decide +kernel
theorem dX12_specHolds_50 : decode cX12_specHolds 50 = .ok (.aload_n 0, 1) := by decide +kernel
theorem dX12_specHolds_51 : decode cX12_specHolds 51 = .ok (.getfield 35, 3) := by decide +kernel
theorem dX12_specHolds_54 : decode cX12_specHolds 54 = .ok (.bipush 12, 2) := by decide +kernel
theorem dX12_specHolds_56 : decode cX12_specHolds 56 = .ok (.aload_n 0, 1) := by decide +kernel
theorem dX12_specHolds_57 : decode cX12_specHolds 57 = .ok (.getfield 292, 3) := by decide +kernel
theorem dX12_specHolds_60 : decode cX12_specHolds 60 = .ok (.iastore, 1) := by decide +kernel
theorem dX12_specHolds_61 : decode cX12_specHolds 61 = .ok (.aload_n 0, 1) := by decide +kernel
theorem dX12_specHolds_62 : decode cX12_specHolds 62 = .ok (.getfield 35, 3) := by decide +kernel
theorem dX12_specHolds_65 : decode cX12_specHolds 65 = .ok (.bipush 13, 2) := by decide +kernel
theorem dX12_specHolds_67 : decode cX12_specHolds 67 = .ok (.aload_n 0, 1) := by decide +kernel
theorem dX12_specHolds_68 : decode cX12_specHolds 68 = .ok (.getfield 295, 3) := by decide +kernel
theorem dX12_specHolds_71 : decode cX12_specHolds 71 = .ok (.iastore, 1) := by decide +kernel
theorem dX12_specHolds_72 : decode cX12_specHolds 72 = .ok (.aload_n 0, 1) := by decide +kernel
theorem dX12_specHolds_73 : decode cX12_specHolds 73 = .ok (.getfield 35, 3) := by decide +kernel
theorem dX12_specHolds_76 : decode cX12_specHolds 76 = .ok (.bipush 14, 2) := by decide +kernel
theorem dX12_specHolds_78 : decode cX12_specHolds 78 = .ok (.aload_n 0, 1) := by decide +kernel
theorem dX12_specHolds_79 : decode cX12_specHolds 79 = .ok (.getfield 289, 3) := by decide +kernel
theorem dX12_specHolds_82 : decode cX12_specHolds 82 = .ok (.iastore, 1) := by decide +kernel
theorem dX12_specHolds_83 : decode cX12_specHolds 83 = .ok (.aload_n 0, 1) := by decide +kernel
theorem dX12_specHolds_84 : decode cX12_specHolds 84 = .ok (.getfield 35, 3) := by decide +kernel
theorem dX12_specHolds_87 : decode cX12_specHolds 87 = .ok (.bipush 15, 2) := by decide +kernel
theorem dX12_specHolds_89 : decode cX12_specHolds 89 = .ok (.aload_n 0, 1) := by decide +kernel
theorem dX12_specHolds_90 : decode cX12_specHolds 90 = .ok (.getfield 301, 3) := by decide +kernel
theorem dX12_specHolds_93 : decode cX12_specHolds 93 = .ok (.iastore, 1) := by decide +kernel
theorem dX12_specHolds_94 : decode cX12_specHolds 94 = .ok (.aload_n 0, 1) := by decide +kernel
theorem dX12_specHolds_95 : decode cX12_specHolds 95 = .ok (.iconst 0, 1) := by decide +kernel
theorem dX12_specHolds_96 : decode cX12_specHolds 96 = .ok (.aload_n 0, 1) := by decide +kernel
theorem dX12_specHolds_97 : decode cX12_specHolds 97 = .ok (.getfield 239, 3) := by decide +kernel
theorem dX12_specHolds_100 : decode cX12_specHolds 100 = .ok (.invokevirtual 331, 3) := by decide +kernel
theorem dX12_specHolds_103 : decode cX12_specHolds 103 = .ok (.iconst 1, 1) := by decide +kernel
theorem dX12_specHolds_104 : decode cX12_specHolds 104 = .ok (.if_icmp .ne 7, 3) := by decide +kernel
theorem dX12_specHolds_107 : decode cX12_specHolds 107 = .ok (.iconst 1, 1) := by decide +kernel
theorem dX12_specHolds_108 : decode cX12_specHolds 108 = .ok (.goto 4, 3) := by decide +kernel
theorem dX12_specHolds_111 : decode cX12_specHolds 111 = .ok (.iconst 0, 1) := by decide +kernel
theorem dX12_specHolds_112 : decode cX12_specHolds 112 = .ok (.ireturn, 1) := by decide +kernel
theorem dX12_isRecipe_0 : decode cX12_isRecipe 0 = .ok (.iload_n 0, 1) := by decide +kernel
theorem dX12_isRecipe_1 : decode cX12_isRecipe 1 = .ok (.ifCond .lt 12, 3) := by decide +kernel
theorem dX12_isRecipe_4 : decode cX12_isRecipe 4 = .ok (.iload_n 0, 1) := by decide +kernel
theorem dX12_isRecipe_5 : decode cX12_isRecipe 5 = .ok (.iconst 3, 1) := by decide +kernel
theorem dX12_isRecipe_6 : decode cX12_isRecipe 6 = .ok (.if_icmp .ge 7, 3) := by decide +kernel
theorem dX12_isRecipe_9 : decode cX12_isRecipe 9 = .ok (.iconst 1, 1) := by decide +kernel
theorem dX12_isRecipe_10 : decode cX12_isRecipe 10 = .ok (.goto 4, 3) := by decide +kernel
theorem dX12_isRecipe_13 : decode cX12_isRecipe 13 = .ok (.iconst 0, 1) := by decide +kernel
theorem dX12_isRecipe_14 : decode cX12_isRecipe 14 = .ok (.ireturn, 1) := by decide +kernel
theorem dX12_isLimit_0 : decode cX12_isLimit 0 = .ok (.iload_n 0, 1) := by decide +kernel
theorem dX12_isLimit_1 : decode cX12_isLimit 1 = .ok (.ifCond .le 14, 3) := by decide +kernel
theorem dX12_isLimit_4 : decode cX12_isLimit 4 = .ok (.iload_n 0, 1) := by decide +kernel
theorem dX12_isLimit_5 : decode cX12_isLimit 5 = .ok (.sipush 20000, 3) := by decide +kernel
theorem dX12_isLimit_8 : decode cX12_isLimit 8 = .ok (.if_icmp .gt 7, 3) := by decide +kernel
theorem dX12_isLimit_11 : decode cX12_isLimit 11 = .ok (.iconst 1, 1) := by decide +kernel
theorem dX12_isLimit_12 : decode cX12_isLimit 12 = .ok (.goto 4, 3) := by decide +kernel
theorem dX12_isLimit_15 : decode cX12_isLimit 15 = .ok (.iconst 0, 1) := by decide +kernel
theorem dX12_isLimit_16 : decode cX12_isLimit 16 = .ok (.ireturn, 1) := by decide +kernel
theorem dX12_run_0 : decode cX12_run 0 = .ok (.iload_n 1, 1) := by decide +kernel
theorem dX12_run_1 : decode cX12_run 1 = .ok (.invokestatic 334, 3) := by decide +kernel
theorem dX12_run_4 : decode cX12_run 4 = .ok (.ifCond .eq 30, 3) := by decide +kernel
theorem dX12_run_7 : decode cX12_run 7 = .ok (.iload_n 2, 1) := by decide +kernel
theorem dX12_run_8 : decode cX12_run 8 = .ok (.invokestatic 337, 3) := by decide +kernel
theorem dX12_run_11 : decode cX12_run 11 = .ok (.ifCond .eq 23, 3) := by decide +kernel
theorem dX12_run_14 : decode cX12_run 14 = .ok (.iload_n 3, 1) := by decide +kernel
theorem dX12_run_15 : decode cX12_run 15 = .ok (.iconst 0, 1) := by decide +kernel
theorem dX12_run_16 : decode cX12_run 16 = .ok (.iconst 5, 1) := by decide +kernel
theorem dX12_run_17 : decode cX12_run 17 = .ok (.invokestatic 137, 3) := by decide +kernel
theorem dX12_run_20 : decode cX12_run 20 = .ok (.ifCond .ne 16, 3) := by decide +kernel
theorem dX12_run_23 : decode cX12_run 23 = .ok (.iload_n 3, 1) := by decide +kernel
theorem dX12_run_24 : decode cX12_run 24 = .ok (.bipush 10, 2) := by decide +kernel
theorem dX12_run_26 : decode cX12_run 26 = .ok (.bipush 15, 2) := by decide +kernel
theorem dX12_run_28 : decode cX12_run 28 = .ok (.invokestatic 137, 3) := by decide +kernel
theorem dX12_run_31 : decode cX12_run 31 = .ok (.ifCond .ne 5, 3) := by decide +kernel
theorem dX12_run_34 : decode cX12_run 34 = .ok (.iconst (-1), 1) := by decide +kernel
theorem dX12_run_35 : decode cX12_run 35 = .ok (.ireturn, 1) := by decide +kernel
theorem dX12_run_36 : decode cX12_run 36 = .ok (.aload_n 0, 1) := by decide +kernel
theorem dX12_run_37 : decode cX12_run 37 = .ok (.aload_n 0, 1) := by decide +kernel
theorem dX12_run_38 : decode cX12_run 38 = .ok (.getfield 16, 3) := by decide +kernel
theorem dX12_run_41 : decode cX12_run 41 = .ok (.invokevirtual 340, 3) := by decide +kernel
theorem dX12_run_44 : decode cX12_run 44 = .ok (.aload_n 0, 1) := by decide +kernel
theorem dX12_run_45 : decode cX12_run 45 = .ok (.iload_n 1, 1) := by decide +kernel
theorem dX12_run_46 : decode cX12_run 46 = .ok (.iload_n 2, 1) := by decide +kernel
theorem dX12_run_47 : decode cX12_run 47 = .ok (.invokevirtual 344, 3) := by decide +kernel
theorem dX12_run_50 : decode cX12_run 50 = .ok (.iload_n 3, 1) := by decide +kernel
theorem dX12_run_51 : decode cX12_run 51 = .ok (.tableswitch 75 0 5 #[37, 42, 47, 52, 57, 62], 37) := by decide +kernel
theorem dX12_run_88 : decode cX12_run 88 = .ok (.aload_n 0, 1) := by decide +kernel
theorem dX12_run_89 : decode cX12_run 89 = .ok (.getfield 301, 3) := by decide +kernel
theorem dX12_run_92 : decode cX12_run 92 = .ok (.ireturn, 1) := by decide +kernel
theorem dX12_run_93 : decode cX12_run 93 = .ok (.aload_n 0, 1) := by decide +kernel
theorem dX12_run_94 : decode cX12_run 94 = .ok (.getfield 289, 3) := by decide +kernel
theorem dX12_run_97 : decode cX12_run 97 = .ok (.ireturn, 1) := by decide +kernel
theorem dX12_run_98 : decode cX12_run 98 = .ok (.aload_n 0, 1) := by decide +kernel
theorem dX12_run_99 : decode cX12_run 99 = .ok (.getfield 292, 3) := by decide +kernel
theorem dX12_run_102 : decode cX12_run 102 = .ok (.ireturn, 1) := by decide +kernel
theorem dX12_run_103 : decode cX12_run 103 = .ok (.aload_n 0, 1) := by decide +kernel
theorem dX12_run_104 : decode cX12_run 104 = .ok (.getfield 295, 3) := by decide +kernel
theorem dX12_run_107 : decode cX12_run 107 = .ok (.ireturn, 1) := by decide +kernel
theorem dX12_run_108 : decode cX12_run 108 = .ok (.aload_n 0, 1) := by decide +kernel
theorem dX12_run_109 : decode cX12_run 109 = .ok (.getfield 298, 3) := by decide +kernel
theorem dX12_run_112 : decode cX12_run 112 = .ok (.ireturn, 1) := by decide +kernel
theorem dX12_run_113 : decode cX12_run 113 = .ok (.aload_n 0, 1) := by decide +kernel
theorem dX12_run_114 : decode cX12_run 114 = .ok (.invokevirtual 347, 3) := by decide +kernel
theorem dX12_run_117 : decode cX12_run 117 = .ok (.ifCond .eq 7, 3) := by decide +kernel
theorem dX12_run_120 : decode cX12_run 120 = .ok (.iconst 1, 1) := by decide +kernel
theorem dX12_run_121 : decode cX12_run 121 = .ok (.goto 4, 3) := by decide +kernel
theorem dX12_run_124 : decode cX12_run 124 = .ok (.iconst 0, 1) := by decide +kernel
theorem dX12_run_125 : decode cX12_run 125 = .ok (.ireturn, 1) := by decide +kernel
theorem dX12_run_126 : decode cX12_run 126 = .ok (.aload_n 0, 1) := by decide +kernel
theorem dX12_run_127 : decode cX12_run 127 = .ok (.getfield 71, 3) := by decide +kernel
theorem dX12_run_130 : decode cX12_run 130 = .ok (.iload_n 3, 1) := by decide +kernel
theorem dX12_run_131 : decode cX12_run 131 = .ok (.bipush 10, 2) := by decide +kernel
theorem dX12_run_133 : decode cX12_run 133 = .ok (.isub, 1) := by decide +kernel
theorem dX12_run_134 : decode cX12_run 134 = .ok (.iaload, 1) := by decide +kernel
theorem dX12_run_135 : decode cX12_run 135 = .ok (.ireturn, 1) := by decide +kernel
theorem dX12_done_0 : decode cX12_done 0 = .ok (.iload_n 1, 1) := by decide +kernel
theorem dX12_done_1 : decode cX12_done 1 = .ok (.invokestatic 334, 3) := by decide +kernel
theorem dX12_done_4 : decode cX12_done 4 = .ok (.ifCond .eq 10, 3) := by decide +kernel
theorem dX12_done_7 : decode cX12_done 7 = .ok (.iload_n 2, 1) := by decide +kernel
theorem dX12_done_8 : decode cX12_done 8 = .ok (.invokestatic 337, 3) := by decide +kernel
theorem dX12_done_11 : decode cX12_done 11 = .ok (.ifCond .ne 5, 3) := by decide +kernel
theorem dX12_done_14 : decode cX12_done 14 = .ok (.iconst (-1), 1) := by decide +kernel
theorem dX12_done_15 : decode cX12_done 15 = .ok (.ireturn, 1) := by decide +kernel
theorem dX12_done_16 : decode cX12_done 16 = .ok (.aload_n 0, 1) := by decide +kernel
theorem dX12_done_17 : decode cX12_done 17 = .ok (.aload_n 0, 1) := by decide +kernel
theorem dX12_done_18 : decode cX12_done 18 = .ok (.getfield 16, 3) := by decide +kernel
theorem dX12_done_21 : decode cX12_done 21 = .ok (.invokevirtual 340, 3) := by decide +kernel
theorem dX12_done_24 : decode cX12_done 24 = .ok (.aload_n 0, 1) := by decide +kernel
theorem dX12_done_25 : decode cX12_done 25 = .ok (.aload_n 0, 1) := by decide +kernel
theorem dX12_done_26 : decode cX12_done 26 = .ok (.getfield 350, 3) := by decide +kernel
theorem dX12_done_29 : decode cX12_done 29 = .ok (.putfield 298, 3) := by decide +kernel
theorem dX12_done_32 : decode cX12_done 32 = .ok (.aload_n 0, 1) := by decide +kernel
theorem dX12_done_33 : decode cX12_done 33 = .ok (.iload_n 1, 1) := by decide +kernel
theorem dX12_done_34 : decode cX12_done 34 = .ok (.iload_n 2, 1) := by decide +kernel
theorem dX12_done_35 : decode cX12_done 35 = .ok (.invokevirtual 344, 3) := by decide +kernel
theorem dX12_done_38 : decode cX12_done 38 = .ok (.aload_n 0, 1) := by decide +kernel
theorem dX12_done_39 : decode cX12_done 39 = .ok (.aload_n 0, 1) := by decide +kernel
theorem dX12_done_40 : decode cX12_done 40 = .ok (.getfield 353, 3) := by decide +kernel
theorem dX12_done_43 : decode cX12_done 43 = .ok (.aload_n 0, 1) := by decide +kernel
theorem dX12_done_44 : decode cX12_done 44 = .ok (.getfield 292, 3) := by decide +kernel
theorem dX12_done_47 : decode cX12_done 47 = .ok (.iadd, 1) := by decide +kernel
theorem dX12_done_48 : decode cX12_done 48 = .ok (.putfield 353, 3) := by decide +kernel
theorem dX12_done_51 : decode cX12_done 51 = .ok (.aload_n 0, 1) := by decide +kernel
theorem dX12_done_52 : decode cX12_done 52 = .ok (.aload_n 0, 1) := by decide +kernel
theorem dX12_done_53 : decode cX12_done 53 = .ok (.getfield 356, 3) := by decide +kernel
theorem dX12_done_56 : decode cX12_done 56 = .ok (.aload_n 0, 1) := by decide +kernel
theorem dX12_done_57 : decode cX12_done 57 = .ok (.getfield 295, 3) := by decide +kernel
theorem dX12_done_60 : decode cX12_done 60 = .ok (.iadd, 1) := by decide +kernel
theorem dX12_done_61 : decode cX12_done 61 = .ok (.putfield 356, 3) := by decide +kernel
theorem dX12_done_64 : decode cX12_done 64 = .ok (.aload_n 0, 1) := by decide +kernel
theorem dX12_done_65 : decode cX12_done 65 = .ok (.aload_n 0, 1) := by decide +kernel
theorem dX12_done_66 : decode cX12_done 66 = .ok (.getfield 298, 3) := by decide +kernel
theorem dX12_done_69 : decode cX12_done 69 = .ok (.putfield 350, 3) := by decide +kernel
theorem dX12_done_72 : decode cX12_done 72 = .ok (.iconst 0, 1) := by decide +kernel
theorem dX12_done_73 : decode cX12_done 73 = .ok (.istore_n 3, 1) := by decide +kernel
theorem dX12_done_74 : decode cX12_done 74 = .ok (.iload_n 3, 1) := by decide +kernel
theorem dX12_done_75 : decode cX12_done 75 = .ok (.bipush 6, 2) := by decide +kernel
theorem dX12_done_77 : decode cX12_done 77 = .ok (.if_icmp .ge 21, 3) := by decide +kernel
theorem dX12_done_80 : decode cX12_done 80 = .ok (.aload_n 0, 1) := by decide +kernel
theorem dX12_done_81 : decode cX12_done 81 = .ok (.getfield 16, 3) := by decide +kernel
theorem dX12_done_84 : decode cX12_done 84 = .ok (.iload_n 3, 1) := by decide +kernel
theorem dX12_done_85 : decode cX12_done 85 = .ok (.aload_n 0, 1) := by decide +kernel
theorem dX12_done_86 : decode cX12_done 86 = .ok (.getfield 71, 3) := by decide +kernel
theorem dX12_done_89 : decode cX12_done 89 = .ok (.iload_n 3, 1) := by decide +kernel
theorem dX12_done_90 : decode cX12_done 90 = .ok (.iaload, 1) := by decide +kernel
theorem dX12_done_91 : decode cX12_done 91 = .ok (.iastore, 1) := by decide +kernel
theorem dX12_done_92 : decode cX12_done 92 = .ok (.iinc 3 1, 3) := by decide +kernel
theorem dX12_done_95 : decode cX12_done 95 = .ok (.goto (-21), 3) := by decide +kernel
theorem dX12_done_98 : decode cX12_done 98 = .ok (.aload_n 0, 1) := by decide +kernel
theorem dX12_done_99 : decode cX12_done 99 = .ok (.getfield 301, 3) := by decide +kernel
theorem dX12_done_102 : decode cX12_done 102 = .ok (.ireturn, 1) := by decide +kernel
theorem dX12_areVats_0 : decode cX12_areVats 0 = .ok (.iload_n 1, 1) := by decide +kernel
theorem dX12_areVats_1 : decode cX12_areVats 1 = .ok (.iconst 1, 1) := by decide +kernel
theorem dX12_areVats_2 : decode cX12_areVats 2 = .ok (.bipush 63, 2) := by decide +kernel
theorem dX12_areVats_4 : decode cX12_areVats 4 = .ok (.invokestatic 137, 3) := by decide +kernel
theorem dX12_areVats_7 : decode cX12_areVats 7 = .ok (.ifCond .eq 25, 3) := by decide +kernel
theorem dX12_areVats_10 : decode cX12_areVats 10 = .ok (.iload_n 1, 1) := by decide +kernel
theorem dX12_areVats_11 : decode cX12_areVats 11 = .ok (.invokestatic 359, 3) := by decide +kernel
theorem dX12_areVats_14 : decode cX12_areVats 14 = .ok (.iconst 4, 1) := by decide +kernel
theorem dX12_areVats_15 : decode cX12_areVats 15 = .ok (.if_icmp .ge 17, 3) := by decide +kernel
theorem dX12_areVats_18 : decode cX12_areVats 18 = .ok (.iload_n 2, 1) := by decide +kernel
theorem dX12_areVats_19 : decode cX12_areVats 19 = .ok (.iconst 1, 1) := by decide +kernel
theorem dX12_areVats_20 : decode cX12_areVats 20 = .ok (.bipush 20, 2) := by decide +kernel
theorem dX12_areVats_22 : decode cX12_areVats 22 = .ok (.invokestatic 137, 3) := by decide +kernel
theorem dX12_areVats_25 : decode cX12_areVats 25 = .ok (.ifCond .eq 7, 3) := by decide +kernel
theorem dX12_areVats_28 : decode cX12_areVats 28 = .ok (.iconst 1, 1) := by decide +kernel
theorem dX12_areVats_29 : decode cX12_areVats 29 = .ok (.goto 4, 3) := by decide +kernel
theorem dX12_areVats_32 : decode cX12_areVats 32 = .ok (.iconst 0, 1) := by decide +kernel
theorem dX12_areVats_33 : decode cX12_areVats 33 = .ok (.ireturn, 1) := by decide +kernel
theorem dX12_bits_0 : decode cX12_bits 0 = .ok (.iconst 0, 1) := by decide +kernel
theorem dX12_bits_1 : decode cX12_bits 1 = .ok (.istore_n 1, 1) := by decide +kernel
theorem dX12_bits_2 : decode cX12_bits 2 = .ok (.iconst 0, 1) := by decide +kernel
theorem dX12_bits_3 : decode cX12_bits 3 = .ok (.istore_n 2, 1) := by decide +kernel
theorem dX12_bits_4 : decode cX12_bits 4 = .ok (.iload_n 2, 1) := by decide +kernel
theorem dX12_bits_5 : decode cX12_bits 5 = .ok (.bipush 8, 2) := by decide +kernel
theorem dX12_bits_7 : decode cX12_bits 7 = .ok (.if_icmp .ge 17, 3) := by decide +kernel
theorem dX12_bits_10 : decode cX12_bits 10 = .ok (.iload_n 1, 1) := by decide +kernel
theorem dX12_bits_11 : decode cX12_bits 11 = .ok (.iload_n 0, 1) := by decide +kernel
theorem dX12_bits_12 : decode cX12_bits 12 = .ok (.iload_n 2, 1) := by decide +kernel
theorem dX12_bits_13 : decode cX12_bits 13 = .ok (.ishr, 1) := by decide +kernel
theorem dX12_bits_14 : decode cX12_bits 14 = .ok (.iconst 1, 1) := by decide +kernel
theorem dX12_bits_15 : decode cX12_bits 15 = .ok (.iand, 1) := by decide +kernel
theorem dX12_bits_16 : decode cX12_bits 16 = .ok (.iadd, 1) := by decide +kernel
theorem dX12_bits_17 : decode cX12_bits 17 = .ok (.istore_n 1, 1) := by decide +kernel
theorem dX12_bits_18 : decode cX12_bits 18 = .ok (.iinc 2 1, 3) := by decide +kernel
theorem dX12_bits_21 : decode cX12_bits 21 = .ok (.goto (-17), 3) := by decide +kernel
theorem dX12_bits_24 : decode cX12_bits 24 = .ok (.iload_n 1, 1) := by decide +kernel
theorem dX12_bits_25 : decode cX12_bits 25 = .ok (.ireturn, 1) := by decide +kernel
theorem dX12_startsBeginnings_0 : decode cX12_startsBeginnings 0 = .ok (.aload_n 0, 1) := by decide +kernel
theorem dX12_startsBeginnings_1 : decode cX12_startsBeginnings 1 = .ok (.iconst 0, 1) := by decide +kernel
theorem dX12_startsBeginnings_2 : decode cX12_startsBeginnings 2 = .ok (.putfield 362, 3) := by decide +kernel
theorem dX12_startsBeginnings_5 : decode cX12_startsBeginnings 5 = .ok (.iconst 0, 1) := by decide +kernel
theorem dX12_startsBeginnings_6 : decode cX12_startsBeginnings 6 = .ok (.istore_n 2, 1) := by decide +kernel
theorem dX12_startsBeginnings_7 : decode cX12_startsBeginnings 7 = .ok (.iload_n 2, 1) := by decide +kernel
theorem dX12_startsBeginnings_8 : decode cX12_startsBeginnings 8 = .ok (.bipush 6, 2) := by decide +kernel
theorem dX12_startsBeginnings_10 : decode cX12_startsBeginnings 10 = .ok (.if_icmp .ge 34, 3) := by decide +kernel
theorem dX12_startsBeginnings_13 : decode cX12_startsBeginnings 13 = .ok (.aload_n 0, 1) := by decide +kernel
theorem dX12_startsBeginnings_14 : decode cX12_startsBeginnings 14 = .ok (.getfield 74, 3) := by decide +kernel
theorem dX12_startsBeginnings_17 : decode cX12_startsBeginnings 17 = .ok (.iload_n 2, 1) := by decide +kernel
theorem dX12_startsBeginnings_18 : decode cX12_startsBeginnings 18 = .ok (.iload_n 1, 1) := by decide +kernel
theorem dX12_startsBeginnings_19 : decode cX12_startsBeginnings 19 = .ok (.iload_n 2, 1) := by decide +kernel
theorem dX12_startsBeginnings_20 : decode cX12_startsBeginnings 20 = .ok (.ishr, 1) := by decide +kernel
theorem dX12_startsBeginnings_21 : decode cX12_startsBeginnings 21 = .ok (.iconst 1, 1) := by decide +kernel
theorem dX12_startsBeginnings_22 : decode cX12_startsBeginnings 22 = .ok (.iand, 1) := by decide +kernel
theorem dX12_startsBeginnings_23 : decode cX12_startsBeginnings 23 = .ok (.iconst 1, 1) := by decide +kernel
theorem dX12_startsBeginnings_24 : decode cX12_startsBeginnings 24 = .ok (.if_icmp .ne 7, 3) := by decide +kernel
theorem dX12_startsBeginnings_27 : decode cX12_startsBeginnings 27 = .ok (.iconst 0, 1) := by decide +kernel
theorem dX12_startsBeginnings_28 : decode cX12_startsBeginnings 28 = .ok (.goto 9, 3) := by decide +kernel
theorem dX12_startsBeginnings_31 : decode cX12_startsBeginnings 31 = .ok (.aload_n 0, 1) := by decide +kernel
theorem dX12_startsBeginnings_32 : decode cX12_startsBeginnings 32 = .ok (.getfield 16, 3) := by decide +kernel
theorem dX12_startsBeginnings_35 : decode cX12_startsBeginnings 35 = .ok (.iload_n 2, 1) := by decide +kernel
theorem dX12_startsBeginnings_36 : decode cX12_startsBeginnings 36 = .ok (.iaload, 1) := by decide +kernel
theorem dX12_startsBeginnings_37 : decode cX12_startsBeginnings 37 = .ok (.iastore, 1) := by decide +kernel
theorem dX12_startsBeginnings_38 : decode cX12_startsBeginnings 38 = .ok (.iinc 2 1, 3) := by decide +kernel
theorem dX12_startsBeginnings_41 : decode cX12_startsBeginnings 41 = .ok (.goto (-34), 3) := by decide +kernel
theorem dX12_startsBeginnings_44 : decode cX12_startsBeginnings 44 = .ok (.return_, 1) := by decide +kernel
theorem dX12_goesToNext_0 : decode cX12_goesToNext 0 = .ok (.iconst 5, 1) := by decide +kernel
theorem dX12_goesToNext_1 : decode cX12_goesToNext 1 = .ok (.istore_n 3, 1) := by decide +kernel
theorem dX12_goesToNext_2 : decode cX12_goesToNext 2 = .ok (.iload_n 3, 1) := by decide +kernel
theorem dX12_goesToNext_3 : decode cX12_goesToNext 3 = .ok (.ifCond .lt 62, 3) := by decide +kernel
theorem dX12_goesToNext_6 : decode cX12_goesToNext 6 = .ok (.iload_n 1, 1) := by decide +kernel
theorem dX12_goesToNext_7 : decode cX12_goesToNext 7 = .ok (.iload_n 3, 1) := by decide +kernel
theorem dX12_goesToNext_8 : decode cX12_goesToNext 8 = .ok (.ishr, 1) := by decide +kernel
theorem dX12_goesToNext_9 : decode cX12_goesToNext 9 = .ok (.iconst 1, 1) := by decide +kernel
theorem dX12_goesToNext_10 : decode cX12_goesToNext 10 = .ok (.iand, 1) := by decide +kernel
theorem dX12_goesToNext_11 : decode cX12_goesToNext 11 = .ok (.ifCond .ne 6, 3) := by decide +kernel
theorem dX12_goesToNext_14 : decode cX12_goesToNext 14 = .ok (.goto 45, 3) := by decide +kernel
theorem dX12_goesToNext_17 : decode cX12_goesToNext 17 = .ok (.aload_n 0, 1) := by decide +kernel
theorem dX12_goesToNext_18 : decode cX12_goesToNext 18 = .ok (.getfield 74, 3) := by decide +kernel
theorem dX12_goesToNext_21 : decode cX12_goesToNext 21 = .ok (.iload_n 3, 1) := by decide +kernel
theorem dX12_goesToNext_22 : decode cX12_goesToNext 22 = .ok (.iaload, 1) := by decide +kernel
theorem dX12_goesToNext_23 : decode cX12_goesToNext 23 = .ok (.iload_n 2, 1) := by decide +kernel
theorem dX12_goesToNext_24 : decode cX12_goesToNext 24 = .ok (.aload_n 0, 1) := by decide +kernel
theorem dX12_goesToNext_25 : decode cX12_goesToNext 25 = .ok (.getfield 13, 3) := by decide +kernel
theorem dX12_goesToNext_28 : decode cX12_goesToNext 28 = .ok (.iload_n 3, 1) := by decide +kernel
theorem dX12_goesToNext_29 : decode cX12_goesToNext 29 = .ok (.iaload, 1) := by decide +kernel
theorem dX12_goesToNext_30 : decode cX12_goesToNext 30 = .ok (.invokestatic 304, 3) := by decide +kernel
theorem dX12_goesToNext_33 : decode cX12_goesToNext 33 = .ok (.if_icmp .ge 19, 3) := by decide +kernel
theorem dX12_goesToNext_36 : decode cX12_goesToNext 36 = .ok (.aload_n 0, 1) := by decide +kernel
theorem dX12_goesToNext_37 : decode cX12_goesToNext 37 = .ok (.getfield 74, 3) := by decide +kernel
theorem dX12_goesToNext_40 : decode cX12_goesToNext 40 = .ok (.iload_n 3, 1) := by decide +kernel
theorem dX12_goesToNext_41 : decode cX12_goesToNext 41 = .ok (.aload_n 0, 1) := by decide +kernel
theorem dX12_goesToNext_42 : decode cX12_goesToNext 42 = .ok (.getfield 74, 3) := by decide +kernel
theorem dX12_goesToNext_45 : decode cX12_goesToNext 45 = .ok (.iload_n 3, 1) := by decide +kernel
theorem dX12_goesToNext_46 : decode cX12_goesToNext 46 = .ok (.iaload, 1) := by decide +kernel
theorem dX12_goesToNext_47 : decode cX12_goesToNext 47 = .ok (.iconst 1, 1) := by decide +kernel
theorem dX12_goesToNext_48 : decode cX12_goesToNext 48 = .ok (.iadd, 1) := by decide +kernel
theorem dX12_goesToNext_49 : decode cX12_goesToNext 49 = .ok (.iastore, 1) := by decide +kernel
theorem dX12_goesToNext_50 : decode cX12_goesToNext 50 = .ok (.iconst 1, 1) := by decide +kernel
theorem dX12_goesToNext_51 : decode cX12_goesToNext 51 = .ok (.ireturn, 1) := by decide +kernel
theorem dX12_goesToNext_52 : decode cX12_goesToNext 52 = .ok (.aload_n 0, 1) := by decide +kernel
theorem dX12_goesToNext_53 : decode cX12_goesToNext 53 = .ok (.getfield 74, 3) := by decide +kernel
theorem dX12_goesToNext_56 : decode cX12_goesToNext 56 = .ok (.iload_n 3, 1) := by decide +kernel
theorem dX12_goesToNext_57 : decode cX12_goesToNext 57 = .ok (.iconst 0, 1) := by decide +kernel
theorem dX12_goesToNext_58 : decode cX12_goesToNext 58 = .ok (.iastore, 1) := by decide +kernel
theorem dX12_goesToNext_59 : decode cX12_goesToNext 59 = .ok (.iinc 3 (-1), 3) := by decide +kernel
theorem dX12_goesToNext_62 : decode cX12_goesToNext 62 = .ok (.goto (-60), 3) := by decide +kernel
theorem dX12_goesToNext_65 : decode cX12_goesToNext 65 = .ok (.iconst 0, 1) := by decide +kernel
theorem dX12_goesToNext_66 : decode cX12_goesToNext 66 = .ok (.ireturn, 1) := by decide +kernel
theorem dX12_finds_0 : decode cX12_finds 0 = .ok (.iload_n 1, 1) := by decide +kernel
theorem dX12_finds_1 : decode cX12_finds 1 = .ok (.ifCond .ne 4, 3) := by decide +kernel
theorem dX12_finds_4 : decode cX12_finds 4 = .ok (.return_, 1) := by decide +kernel
theorem dX12_finds_5 : decode cX12_finds 5 = .ok (.iconst 0, 1) := by decide +kernel
theorem dX12_finds_6 : decode cX12_finds 6 = .ok (.istore_n 2, 1) := by decide +kernel
theorem dX12_finds_7 : decode cX12_finds 7 = .ok (.iload_n 2, 1) := by decide +kernel
theorem dX12_finds_8 : decode cX12_finds 8 = .ok (.bipush 6, 2) := by decide +kernel
theorem dX12_finds_10 : decode cX12_finds 10 = .ok (.if_icmp .ge 28, 3) := by decide +kernel
theorem dX12_finds_13 : decode cX12_finds 13 = .ok (.aload_n 0, 1) := by decide +kernel
theorem dX12_finds_14 : decode cX12_finds 14 = .ok (.getfield 362, 3) := by decide +kernel
theorem dX12_finds_17 : decode cX12_finds 17 = .ok (.ifCond .ne 21, 3) := by decide +kernel
theorem dX12_finds_20 : decode cX12_finds 20 = .ok (.aload_n 0, 1) := by decide +kernel
theorem dX12_finds_21 : decode cX12_finds 21 = .ok (.getfield 77, 3) := by decide +kernel
theorem dX12_finds_24 : decode cX12_finds 24 = .ok (.iload_n 2, 1) := by decide +kernel
theorem dX12_finds_25 : decode cX12_finds 25 = .ok (.aload_n 0, 1) := by decide +kernel
theorem dX12_finds_26 : decode cX12_finds 26 = .ok (.getfield 74, 3) := by decide +kernel
theorem dX12_finds_29 : decode cX12_finds 29 = .ok (.iload_n 2, 1) := by decide +kernel
theorem dX12_finds_30 : decode cX12_finds 30 = .ok (.iaload, 1) := by decide +kernel
theorem dX12_finds_31 : decode cX12_finds 31 = .ok (.iastore, 1) := by decide +kernel
theorem dX12_finds_32 : decode cX12_finds 32 = .ok (.iinc 2 1, 3) := by decide +kernel
theorem dX12_finds_35 : decode cX12_finds 35 = .ok (.goto (-28), 3) := by decide +kernel
theorem dX12_finds_38 : decode cX12_finds 38 = .ok (.aload_n 0, 1) := by decide +kernel
theorem dX12_finds_39 : decode cX12_finds 39 = .ok (.aload_n 0, 1) := by decide +kernel
theorem dX12_finds_40 : decode cX12_finds 40 = .ok (.getfield 362, 3) := by decide +kernel
theorem dX12_finds_43 : decode cX12_finds 43 = .ok (.iconst 1, 1) := by decide +kernel
theorem dX12_finds_44 : decode cX12_finds 44 = .ok (.iadd, 1) := by decide +kernel
theorem dX12_finds_45 : decode cX12_finds 45 = .ok (.putfield 362, 3) := by decide +kernel
theorem dX12_finds_48 : decode cX12_finds 48 = .ok (.return_, 1) := by decide +kernel
theorem dX12_tellsFound_0 : decode cX12_tellsFound 0 = .ok (.iload_n 1, 1) := by decide +kernel
theorem dX12_tellsFound_1 : decode cX12_tellsFound 1 = .ok (.iconst (-1), 1) := by decide +kernel
theorem dX12_tellsFound_2 : decode cX12_tellsFound 2 = .ok (.if_icmp .ne 10, 3) := by decide +kernel
theorem dX12_tellsFound_5 : decode cX12_tellsFound 5 = .ok (.aload_n 0, 1) := by decide +kernel
theorem dX12_tellsFound_6 : decode cX12_tellsFound 6 = .ok (.getfield 362, 3) := by decide +kernel
theorem dX12_tellsFound_9 : decode cX12_tellsFound 9 = .ok (.goto 21, 3) := by decide +kernel
theorem dX12_tellsFound_12 : decode cX12_tellsFound 12 = .ok (.aload_n 0, 1) := by decide +kernel
theorem dX12_tellsFound_13 : decode cX12_tellsFound 13 = .ok (.getfield 362, 3) := by decide +kernel
theorem dX12_tellsFound_16 : decode cX12_tellsFound 16 = .ok (.ifCond .ne 8, 3) := by decide +kernel
theorem dX12_tellsFound_19 : decode cX12_tellsFound 19 = .ok (.bipush (-2), 2) := by decide +kernel
theorem dX12_tellsFound_21 : decode cX12_tellsFound 21 = .ok (.goto 9, 3) := by decide +kernel
theorem dX12_tellsFound_24 : decode cX12_tellsFound 24 = .ok (.aload_n 0, 1) := by decide +kernel
theorem dX12_tellsFound_25 : decode cX12_tellsFound 25 = .ok (.getfield 77, 3) := by decide +kernel
theorem dX12_tellsFound_28 : decode cX12_tellsFound 28 = .ok (.iload_n 1, 1) := by decide +kernel
theorem dX12_tellsFound_29 : decode cX12_tellsFound 29 = .ok (.iaload, 1) := by decide +kernel
theorem dX12_tellsFound_30 : decode cX12_tellsFound 30 = .ok (.ireturn, 1) := by decide +kernel
theorem dX12_runsFrom_0 : decode cX12_runsFrom 0 = .ok (.aload_n 0, 1) := by decide +kernel
theorem dX12_runsFrom_1 : decode cX12_runsFrom 1 = .ok (.aload_n 0, 1) := by decide +kernel
theorem dX12_runsFrom_2 : decode cX12_runsFrom 2 = .ok (.getfield 74, 3) := by decide +kernel
theorem dX12_runsFrom_5 : decode cX12_runsFrom 5 = .ok (.invokevirtual 340, 3) := by decide +kernel
theorem dX12_runsFrom_8 : decode cX12_runsFrom 8 = .ok (.aload_n 0, 1) := by decide +kernel
theorem dX12_runsFrom_9 : decode cX12_runsFrom 9 = .ok (.iload_n 1, 1) := by decide +kernel
theorem dX12_runsFrom_10 : decode cX12_runsFrom 10 = .ok (.sipush 2000, 3) := by decide +kernel
theorem dX12_runsFrom_13 : decode cX12_runsFrom 13 = .ok (.invokevirtual 344, 3) := by decide +kernel
theorem dX12_runsFrom_16 : decode cX12_runsFrom 16 = .ok (.return_, 1) := by decide +kernel
theorem dX12_proved_0 : decode cX12_proved 0 = .ok (.iload_n 1, 1) := by decide +kernel
theorem dX12_proved_1 : decode cX12_proved 1 = .ok (.invokestatic 334, 3) := by decide +kernel
theorem dX12_proved_4 : decode cX12_proved 4 = .ok (.ifCond .eq 22, 3) := by decide +kernel
theorem dX12_proved_7 : decode cX12_proved 7 = .ok (.aload_n 0, 1) := by decide +kernel
theorem dX12_proved_8 : decode cX12_proved 8 = .ok (.iload_n 2, 1) := by decide +kernel
theorem dX12_proved_9 : decode cX12_proved 9 = .ok (.iload_n 3, 1) := by decide +kernel
theorem dX12_proved_10 : decode cX12_proved 10 = .ok (.invokevirtual 365, 3) := by decide +kernel
theorem dX12_proved_13 : decode cX12_proved 13 = .ok (.ifCond .eq 13, 3) := by decide +kernel
theorem dX12_proved_16 : decode cX12_proved 16 = .ok (.iload 4, 2) := by decide +kernel
theorem dX12_proved_18 : decode cX12_proved 18 = .ok (.iconst (-1), 1) := by decide +kernel
theorem dX12_proved_19 : decode cX12_proved 19 = .ok (.iconst 5, 1) := by decide +kernel
theorem dX12_proved_20 : decode cX12_proved 20 = .ok (.invokestatic 137, 3) := by decide +kernel
theorem dX12_proved_23 : decode cX12_proved 23 = .ok (.ifCond .ne 6, 3) := by decide +kernel
theorem dX12_proved_26 : decode cX12_proved 26 = .ok (.bipush (-3), 2) := by decide +kernel
theorem dX12_proved_28 : decode cX12_proved 28 = .ok (.ireturn, 1) := by decide +kernel
theorem dX12_proved_29 : decode cX12_proved 29 = .ok (.aload_n 0, 1) := by decide +kernel
theorem dX12_proved_30 : decode cX12_proved 30 = .ok (.iload_n 2, 1) := by decide +kernel
theorem dX12_proved_31 : decode cX12_proved 31 = .ok (.invokevirtual 368, 3) := by decide +kernel
theorem dX12_proved_34 : decode cX12_proved 34 = .ok (.iconst 1, 1) := by decide +kernel
theorem dX12_proved_35 : decode cX12_proved 35 = .ok (.istore 5, 2) := by decide +kernel
theorem dX12_proved_37 : decode cX12_proved 37 = .ok (.iload 5, 2) := by decide +kernel
theorem dX12_proved_39 : decode cX12_proved 39 = .ok (.ifCond .eq 35, 3) := by decide +kernel
theorem dX12_proved_42 : decode cX12_proved 42 = .ok (.aload_n 0, 1) := by decide +kernel
theorem dX12_proved_43 : decode cX12_proved 43 = .ok (.iload_n 1, 1) := by decide +kernel
theorem dX12_proved_44 : decode cX12_proved 44 = .ok (.invokevirtual 371, 3) := by decide +kernel
theorem dX12_proved_47 : decode cX12_proved 47 = .ok (.aload_n 0, 1) := by decide +kernel
theorem dX12_proved_48 : decode cX12_proved 48 = .ok (.aload_n 0, 1) := by decide +kernel
theorem dX12_proved_49 : decode cX12_proved 49 = .ok (.invokevirtual 347, 3) := by decide +kernel
theorem dX12_proved_52 : decode cX12_proved 52 = .ok (.ifCond .ne 7, 3) := by decide +kernel
theorem dX12_proved_55 : decode cX12_proved 55 = .ok (.iconst 1, 1) := by decide +kernel
theorem dX12_proved_56 : decode cX12_proved 56 = .ok (.goto 4, 3) := by decide +kernel
theorem dX12_proved_59 : decode cX12_proved 59 = .ok (.iconst 0, 1) := by decide +kernel
theorem dX12_proved_60 : decode cX12_proved 60 = .ok (.invokevirtual 374, 3) := by decide +kernel
theorem dX12_proved_63 : decode cX12_proved 63 = .ok (.aload_n 0, 1) := by decide +kernel
theorem dX12_proved_64 : decode cX12_proved 64 = .ok (.iload_n 2, 1) := by decide +kernel
theorem dX12_proved_65 : decode cX12_proved 65 = .ok (.iload_n 3, 1) := by decide +kernel
theorem dX12_proved_66 : decode cX12_proved 66 = .ok (.invokevirtual 377, 3) := by decide +kernel
theorem dX12_proved_69 : decode cX12_proved 69 = .ok (.istore 5, 2) := by decide +kernel
theorem dX12_proved_71 : decode cX12_proved 71 = .ok (.goto (-34), 3) := by decide +kernel
theorem dX12_proved_74 : decode cX12_proved 74 = .ok (.aload_n 0, 1) := by decide +kernel
theorem dX12_proved_75 : decode cX12_proved 75 = .ok (.iload 4, 2) := by decide +kernel
theorem dX12_proved_77 : decode cX12_proved 77 = .ok (.invokevirtual 380, 3) := by decide +kernel
theorem dX12_proved_80 : decode cX12_proved 80 = .ok (.ireturn, 1) := by decide +kernel
theorem dX12_endOtherwise_0 : decode cX12_endOtherwise 0 = .ok (.aload_n 0, 1) := by decide +kernel
theorem dX12_endOtherwise_1 : decode cX12_endOtherwise 1 = .ok (.iload_n 1, 1) := by decide +kernel
theorem dX12_endOtherwise_2 : decode cX12_endOtherwise 2 = .ok (.invokevirtual 371, 3) := by decide +kernel
theorem dX12_endOtherwise_5 : decode cX12_endOtherwise 5 = .ok (.aload_n 0, 1) := by decide +kernel
theorem dX12_endOtherwise_6 : decode cX12_endOtherwise 6 = .ok (.getfield 301, 3) := by decide +kernel
theorem dX12_endOtherwise_9 : decode cX12_endOtherwise 9 = .ok (.istore_n 3, 1) := by decide +kernel
theorem dX12_endOtherwise_10 : decode cX12_endOtherwise 10 = .ok (.iconst 0, 1) := by decide +kernel
theorem dX12_endOtherwise_11 : decode cX12_endOtherwise 11 = .ok (.istore 4, 2) := by decide +kernel
theorem dX12_endOtherwise_13 : decode cX12_endOtherwise 13 = .ok (.iload 4, 2) := by decide +kernel
theorem dX12_endOtherwise_15 : decode cX12_endOtherwise 15 = .ok (.bipush 6, 2) := by decide +kernel
theorem dX12_endOtherwise_17 : decode cX12_endOtherwise 17 = .ok (.if_icmp .ge 23, 3) := by decide +kernel
theorem dX12_endOtherwise_20 : decode cX12_endOtherwise 20 = .ok (.aload_n 0, 1) := by decide +kernel
theorem dX12_endOtherwise_21 : decode cX12_endOtherwise 21 = .ok (.getfield 80, 3) := by decide +kernel
theorem dX12_endOtherwise_24 : decode cX12_endOtherwise 24 = .ok (.iload 4, 2) := by decide +kernel
theorem dX12_endOtherwise_26 : decode cX12_endOtherwise 26 = .ok (.aload_n 0, 1) := by decide +kernel
theorem dX12_endOtherwise_27 : decode cX12_endOtherwise 27 = .ok (.getfield 71, 3) := by decide +kernel
theorem dX12_endOtherwise_30 : decode cX12_endOtherwise 30 = .ok (.iload 4, 2) := by decide +kernel
theorem dX12_endOtherwise_32 : decode cX12_endOtherwise 32 = .ok (.iaload, 1) := by decide +kernel
theorem dX12_endOtherwise_33 : decode cX12_endOtherwise 33 = .ok (.iastore, 1) := by decide +kernel
theorem dX12_endOtherwise_34 : decode cX12_endOtherwise 34 = .ok (.iinc 4 1, 3) := by decide +kernel
theorem dX12_endOtherwise_37 : decode cX12_endOtherwise 37 = .ok (.goto (-24), 3) := by decide +kernel
theorem dX12_endOtherwise_40 : decode cX12_endOtherwise 40 = .ok (.aload_n 0, 1) := by decide +kernel
theorem dX12_endOtherwise_41 : decode cX12_endOtherwise 41 = .ok (.iload_n 2, 1) := by decide +kernel
theorem dX12_endOtherwise_42 : decode cX12_endOtherwise 42 = .ok (.invokevirtual 371, 3) := by decide +kernel
theorem dX12_endOtherwise_45 : decode cX12_endOtherwise 45 = .ok (.iload_n 3, 1) := by decide +kernel
theorem dX12_endOtherwise_46 : decode cX12_endOtherwise 46 = .ok (.aload_n 0, 1) := by decide +kernel
theorem dX12_endOtherwise_47 : decode cX12_endOtherwise 47 = .ok (.getfield 301, 3) := by decide +kernel
theorem dX12_endOtherwise_50 : decode cX12_endOtherwise 50 = .ok (.if_icmp .eq 7, 3) := by decide +kernel
theorem dX12_endOtherwise_53 : decode cX12_endOtherwise 53 = .ok (.iconst 1, 1) := by decide +kernel
theorem dX12_endOtherwise_54 : decode cX12_endOtherwise 54 = .ok (.goto 4, 3) := by decide +kernel
theorem dX12_endOtherwise_57 : decode cX12_endOtherwise 57 = .ok (.iconst 0, 1) := by decide +kernel
theorem dX12_endOtherwise_58 : decode cX12_endOtherwise 58 = .ok (.istore 4, 2) := by decide +kernel
theorem dX12_endOtherwise_60 : decode cX12_endOtherwise 60 = .ok (.iconst 0, 1) := by decide +kernel
theorem dX12_endOtherwise_61 : decode cX12_endOtherwise 61 = .ok (.istore 5, 2) := by decide +kernel
theorem dX12_endOtherwise_63 : decode cX12_endOtherwise 63 = .ok (.iload 5, 2) := by decide +kernel
theorem dX12_endOtherwise_65 : decode cX12_endOtherwise 65 = .ok (.bipush 6, 2) := by decide +kernel
theorem dX12_endOtherwise_67 : decode cX12_endOtherwise 67 = .ok (.if_icmp .ge 38, 3) := by decide +kernel
theorem dX12_endOtherwise_70 : decode cX12_endOtherwise 70 = .ok (.iload 4, 2) := by decide +kernel
theorem dX12_endOtherwise_72 : decode cX12_endOtherwise 72 = .ok (.ifCond .ne 20, 3) := by decide +kernel
theorem dX12_endOtherwise_75 : decode cX12_endOtherwise 75 = .ok (.aload_n 0, 1) := by decide +kernel
theorem dX12_endOtherwise_76 : decode cX12_endOtherwise 76 = .ok (.getfield 80, 3) := by decide +kernel
theorem dX12_endOtherwise_79 : decode cX12_endOtherwise 79 = .ok (.iload 5, 2) := by decide +kernel
theorem dX12_endOtherwise_81 : decode cX12_endOtherwise 81 = .ok (.iaload, 1) := by decide +kernel
theorem dX12_endOtherwise_82 : decode cX12_endOtherwise 82 = .ok (.aload_n 0, 1) := by decide +kernel
theorem dX12_endOtherwise_83 : decode cX12_endOtherwise 83 = .ok (.getfield 71, 3) := by decide +kernel
theorem dX12_endOtherwise_86 : decode cX12_endOtherwise 86 = .ok (.iload 5, 2) := by decide +kernel
theorem dX12_endOtherwise_88 : decode cX12_endOtherwise 88 = .ok (.iaload, 1) := by decide +kernel
theorem dX12_endOtherwise_89 : decode cX12_endOtherwise 89 = .ok (.if_icmp .eq 7, 3) := by decide +kernel
theorem dX12_endOtherwise_92 : decode cX12_endOtherwise 92 = .ok (.iconst 1, 1) := by decide +kernel
theorem dX12_endOtherwise_93 : decode cX12_endOtherwise 93 = .ok (.goto 4, 3) := by decide +kernel
theorem dX12_endOtherwise_96 : decode cX12_endOtherwise 96 = .ok (.iconst 0, 1) := by decide +kernel
theorem dX12_endOtherwise_97 : decode cX12_endOtherwise 97 = .ok (.istore 4, 2) := by decide +kernel
theorem dX12_endOtherwise_99 : decode cX12_endOtherwise 99 = .ok (.iinc 5 1, 3) := by decide +kernel
theorem dX12_endOtherwise_102 : decode cX12_endOtherwise 102 = .ok (.goto (-39), 3) := by decide +kernel
theorem dX12_endOtherwise_105 : decode cX12_endOtherwise 105 = .ok (.iload 4, 2) := by decide +kernel
theorem dX12_endOtherwise_107 : decode cX12_endOtherwise 107 = .ok (.ireturn, 1) := by decide +kernel
theorem dX12_alike_0 : decode cX12_alike 0 = .ok (.iload_n 1, 1) := by decide +kernel
theorem dX12_alike_1 : decode cX12_alike 1 = .ok (.invokestatic 334, 3) := by decide +kernel
theorem dX12_alike_4 : decode cX12_alike 4 = .ok (.ifCond .eq 30, 3) := by decide +kernel
theorem dX12_alike_7 : decode cX12_alike 7 = .ok (.iload_n 2, 1) := by decide +kernel
theorem dX12_alike_8 : decode cX12_alike 8 = .ok (.invokestatic 334, 3) := by decide +kernel
theorem dX12_alike_11 : decode cX12_alike 11 = .ok (.ifCond .eq 23, 3) := by decide +kernel
theorem dX12_alike_14 : decode cX12_alike 14 = .ok (.aload_n 0, 1) := by decide +kernel
theorem dX12_alike_15 : decode cX12_alike 15 = .ok (.iload_n 3, 1) := by decide +kernel
theorem dX12_alike_16 : decode cX12_alike 16 = .ok (.iload 4, 2) := by decide +kernel
theorem dX12_alike_18 : decode cX12_alike 18 = .ok (.invokevirtual 365, 3) := by decide +kernel
theorem dX12_alike_21 : decode cX12_alike 21 = .ok (.ifCond .eq 13, 3) := by decide +kernel
theorem dX12_alike_24 : decode cX12_alike 24 = .ok (.iload 5, 2) := by decide +kernel
theorem dX12_alike_26 : decode cX12_alike 26 = .ok (.iconst (-1), 1) := by decide +kernel
theorem dX12_alike_27 : decode cX12_alike 27 = .ok (.iconst 5, 1) := by decide +kernel
theorem dX12_alike_28 : decode cX12_alike 28 = .ok (.invokestatic 137, 3) := by decide +kernel
