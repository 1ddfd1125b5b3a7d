theorem dX11_chained_50 : decode cX11_chained 50 = .ok (.iinc 3 1, 3) := by decide +kernel
theorem dX11_chained_53 : decode cX11_chained 53 = .ok (.goto (-41), 3) := by decide +kernel
theorem dX11_chained_56 : decode cX11_chained 56 = .ok (.iload_n 2, 1) := by decide +kernel
theorem dX11_chained_57 : decode cX11_chained 57 = .ok (.ireturn, 1) := by decide +kernel
theorem dX11_liar_0 : decode cX11_liar 0 = .ok (.aload_n 0, 1) := by decide +kernel
theorem dX11_liar_1 : decode cX11_liar 1 = .ok (.iload_n 2, 1) := by decide +kernel
theorem dX11_liar_2 : decode cX11_liar 2 = .ok (.iconst 0, 1) := by decide +kernel
theorem dX11_liar_3 : decode cX11_liar 3 = .ok (.iconst 1, 1) := by decide +kernel
theorem dX11_liar_4 : decode cX11_liar 4 = .ok (.invokevirtual 189, 3) := by decide +kernel
theorem dX11_liar_7 : decode cX11_liar 7 = .ok (.iconst (-1), 1) := by decide +kernel
theorem dX11_liar_8 : decode cX11_liar 8 = .ok (.istore_n 3, 1) := by decide +kernel
theorem dX11_liar_9 : decode cX11_liar 9 = .ok (.iconst (-1), 1) := by decide +kernel
theorem dX11_liar_10 : decode cX11_liar 10 = .ok (.istore 4, 2) := by decide +kernel
theorem dX11_liar_12 : decode cX11_liar 12 = .ok (.iconst 0, 1) := by decide +kernel
theorem dX11_liar_13 : decode cX11_liar 13 = .ok (.istore 5, 2) := by decide +kernel
theorem dX11_liar_15 : decode cX11_liar 15 = .ok (.iload 5, 2) := by decide +kernel
theorem dX11_liar_17 : decode cX11_liar 17 = .ok (.aload_n 0, 1) := by decide +kernel
theorem dX11_liar_18 : decode cX11_liar 18 = .ok (.getfield 68, 3) := by decide +kernel
theorem dX11_liar_21 : decode cX11_liar 21 = .ok (.getfield 144, 3) := by decide +kernel
theorem dX11_liar_24 : decode cX11_liar 24 = .ok (.if_icmp .ge 59, 3) := by decide +kernel
theorem dX11_liar_27 : decode cX11_liar 27 = .ok (.aload_n 0, 1) := by decide +kernel
theorem dX11_liar_28 : decode cX11_liar 28 = .ok (.getfield 33, 3) := by decide +kernel
theorem dX11_liar_31 : decode cX11_liar 31 = .ok (.getfield 218, 3) := by decide +kernel
theorem dX11_liar_34 : decode cX11_liar 34 = .ok (.iload 5, 2) := by decide +kernel
theorem dX11_liar_36 : decode cX11_liar 36 = .ok (.aaload, 1) := by decide +kernel
theorem dX11_liar_37 : decode cX11_liar 37 = .ok (.astore 6, 2) := by decide +kernel
theorem dX11_liar_39 : decode cX11_liar 39 = .ok (.aload 6, 2) := by decide +kernel
theorem dX11_liar_41 : decode cX11_liar 41 = .ok (.invokevirtual 256, 3) := by decide +kernel
theorem dX11_liar_44 : decode cX11_liar 44 = .ok (.ifCond .eq 7, 3) := by decide +kernel
theorem dX11_liar_47 : decode cX11_liar 47 = .ok (.iconst (-1), 1) := by decide +kernel
theorem dX11_liar_48 : decode cX11_liar 48 = .ok (.goto 13, 3) := by decide +kernel
theorem dX11_liar_51 : decode cX11_liar 51 = .ok (.iload_n 1, 1) := by decide +kernel
theorem dX11_liar_52 : decode cX11_liar 52 = .ok (.aload 6, 2) := by decide +kernel
theorem dX11_liar_54 : decode cX11_liar 54 = .ok (.iload_n 1, 1) := by decide +kernel
theorem dX11_liar_55 : decode cX11_liar 55 = .ok (.invokevirtual 262, 3) := by decide +kernel
theorem dX11_liar_58 : decode cX11_liar 58 = .ok (.invokestatic 289, 3) := by decide +kernel
theorem dX11_liar_61 : decode cX11_liar 61 = .ok (.istore 7, 2) := by decide +kernel
theorem dX11_liar_63 : decode cX11_liar 63 = .ok (.iload 7, 2) := by decide +kernel
theorem dX11_liar_65 : decode cX11_liar 65 = .ok (.iload 4, 2) := by decide +kernel
theorem dX11_liar_67 : decode cX11_liar 67 = .ok (.if_icmp .le 10, 3) := by decide +kernel
theorem dX11_liar_70 : decode cX11_liar 70 = .ok (.iload 7, 2) := by decide +kernel
theorem dX11_liar_72 : decode cX11_liar 72 = .ok (.istore 4, 2) := by decide +kernel
theorem dX11_liar_74 : decode cX11_liar 74 = .ok (.iload 5, 2) := by decide +kernel
theorem dX11_liar_76 : decode cX11_liar 76 = .ok (.istore_n 3, 1) := by decide +kernel
theorem dX11_liar_77 : decode cX11_liar 77 = .ok (.iinc 5 1, 3) := by decide +kernel
theorem dX11_liar_80 : decode cX11_liar 80 = .ok (.goto (-65), 3) := by decide +kernel
theorem dX11_liar_83 : decode cX11_liar 83 = .ok (.iload_n 2, 1) := by decide +kernel
theorem dX11_liar_84 : decode cX11_liar 84 = .ok (.ifCond .ne 7, 3) := by decide +kernel
theorem dX11_liar_87 : decode cX11_liar 87 = .ok (.iload_n 3, 1) := by decide +kernel
theorem dX11_liar_88 : decode cX11_liar 88 = .ok (.goto 5, 3) := by decide +kernel
theorem dX11_liar_91 : decode cX11_liar 91 = .ok (.iload 4, 2) := by decide +kernel
theorem dX11_liar_93 : decode cX11_liar 93 = .ok (.ireturn, 1) := by decide +kernel
theorem dX11_reach_0 : decode cX11_reach 0 = .ok (.aload_n 0, 1) := by decide +kernel
theorem dX11_reach_1 : decode cX11_reach 1 = .ok (.iload_n 1, 1) := by decide +kernel
theorem dX11_reach_2 : decode cX11_reach 2 = .ok (.invokevirtual 215, 3) := by decide +kernel
theorem dX11_reach_5 : decode cX11_reach 5 = .ok (.iconst 1, 1) := by decide +kernel
theorem dX11_reach_6 : decode cX11_reach 6 = .ok (.iload_n 1, 1) := by decide +kernel
theorem dX11_reach_7 : decode cX11_reach 7 = .ok (.ishl, 1) := by decide +kernel
theorem dX11_reach_8 : decode cX11_reach 8 = .ok (.istore_n 2, 1) := by decide +kernel
theorem dX11_reach_9 : decode cX11_reach 9 = .ok (.iconst 0, 1) := by decide +kernel
theorem dX11_reach_10 : decode cX11_reach 10 = .ok (.istore_n 3, 1) := by decide +kernel
theorem dX11_reach_11 : decode cX11_reach 11 = .ok (.iload_n 3, 1) := by decide +kernel
theorem dX11_reach_12 : decode cX11_reach 12 = .ok (.bipush 8, 2) := by decide +kernel
theorem dX11_reach_14 : decode cX11_reach 14 = .ok (.if_icmp .ge 62, 3) := by decide +kernel
theorem dX11_reach_17 : decode cX11_reach 17 = .ok (.iconst 0, 1) := by decide +kernel
theorem dX11_reach_18 : decode cX11_reach 18 = .ok (.istore 4, 2) := by decide +kernel
theorem dX11_reach_20 : decode cX11_reach 20 = .ok (.iload 4, 2) := by decide +kernel
theorem dX11_reach_22 : decode cX11_reach 22 = .ok (.aload_n 0, 1) := by decide +kernel
theorem dX11_reach_23 : decode cX11_reach 23 = .ok (.getfield 68, 3) := by decide +kernel
theorem dX11_reach_26 : decode cX11_reach 26 = .ok (.getfield 193, 3) := by decide +kernel
theorem dX11_reach_29 : decode cX11_reach 29 = .ok (.if_icmp .ge 41, 3) := by decide +kernel
theorem dX11_reach_32 : decode cX11_reach 32 = .ok (.iload_n 2, 1) := by decide +kernel
theorem dX11_reach_33 : decode cX11_reach 33 = .ok (.aload_n 0, 1) := by decide +kernel
theorem dX11_reach_34 : decode cX11_reach 34 = .ok (.getfield 68, 3) := by decide +kernel
theorem dX11_reach_37 : decode cX11_reach 37 = .ok (.getfield 244, 3) := by decide +kernel
theorem dX11_reach_40 : decode cX11_reach 40 = .ok (.iload 4, 2) := by decide +kernel
theorem dX11_reach_42 : decode cX11_reach 42 = .ok (.iaload, 1) := by decide +kernel
theorem dX11_reach_43 : decode cX11_reach 43 = .ok (.ishr, 1) := by decide +kernel
theorem dX11_reach_44 : decode cX11_reach 44 = .ok (.iconst 1, 1) := by decide +kernel
theorem dX11_reach_45 : decode cX11_reach 45 = .ok (.iand, 1) := by decide +kernel
theorem dX11_reach_46 : decode cX11_reach 46 = .ok (.ifCond .eq 18, 3) := by decide +kernel
theorem dX11_reach_49 : decode cX11_reach 49 = .ok (.iload_n 2, 1) := by decide +kernel
theorem dX11_reach_50 : decode cX11_reach 50 = .ok (.iconst 1, 1) := by decide +kernel
theorem dX11_reach_51 : decode cX11_reach 51 = .ok (.aload_n 0, 1) := by decide +kernel
theorem dX11_reach_52 : decode cX11_reach 52 = .ok (.getfield 68, 3) := by decide +kernel
theorem dX11_reach_55 : decode cX11_reach 55 = .ok (.getfield 247, 3) := by decide +kernel
theorem dX11_reach_58 : decode cX11_reach 58 = .ok (.iload 4, 2) := by decide +kernel
theorem dX11_reach_60 : decode cX11_reach 60 = .ok (.iaload, 1) := by decide +kernel
theorem dX11_reach_61 : decode cX11_reach 61 = .ok (.ishl, 1) := by decide +kernel
theorem dX11_reach_62 : decode cX11_reach 62 = .ok (.ior, 1) := by decide +kernel
theorem dX11_reach_63 : decode cX11_reach 63 = .ok (.istore_n 2, 1) := by decide +kernel
theorem dX11_reach_64 : decode cX11_reach 64 = .ok (.iinc 4 1, 3) := by decide +kernel
theorem dX11_reach_67 : decode cX11_reach 67 = .ok (.goto (-47), 3) := by decide +kernel
theorem dX11_reach_70 : decode cX11_reach 70 = .ok (.iinc 3 1, 3) := by decide +kernel
theorem dX11_reach_73 : decode cX11_reach 73 = .ok (.goto (-62), 3) := by decide +kernel
theorem dX11_reach_76 : decode cX11_reach 76 = .ok (.iload_n 2, 1) := by decide +kernel
theorem dX11_reach_77 : decode cX11_reach 77 = .ok (.ireturn, 1) := by decide +kernel
theorem dX11_room_0 : decode cX11_room 0 = .ok (.iconst 0, 1) := by decide +kernel
theorem dX11_room_1 : decode cX11_room 1 = .ok (.istore_n 1, 1) := by decide +kernel
theorem dX11_room_2 : decode cX11_room 2 = .ok (.iconst 0, 1) := by decide +kernel
theorem dX11_room_3 : decode cX11_room 3 = .ok (.istore_n 2, 1) := by decide +kernel
theorem dX11_room_4 : decode cX11_room 4 = .ok (.iload_n 2, 1) := by decide +kernel
theorem dX11_room_5 : decode cX11_room 5 = .ok (.aload_n 0, 1) := by decide +kernel
theorem dX11_room_6 : decode cX11_room 6 = .ok (.getfield 68, 3) := by decide +kernel
theorem dX11_room_9 : decode cX11_room 9 = .ok (.getfield 144, 3) := by decide +kernel
theorem dX11_room_12 : decode cX11_room 12 = .ok (.if_icmp .ge 24, 3) := by decide +kernel
theorem dX11_room_15 : decode cX11_room 15 = .ok (.iload_n 1, 1) := by decide +kernel
theorem dX11_room_16 : decode cX11_room 16 = .ok (.aload_n 0, 1) := by decide +kernel
theorem dX11_room_17 : decode cX11_room 17 = .ok (.getfield 33, 3) := by decide +kernel
theorem dX11_room_20 : decode cX11_room 20 = .ok (.getfield 218, 3) := by decide +kernel
theorem dX11_room_23 : decode cX11_room 23 = .ok (.iload_n 2, 1) := by decide +kernel
theorem dX11_room_24 : decode cX11_room 24 = .ok (.aaload, 1) := by decide +kernel
theorem dX11_room_25 : decode cX11_room 25 = .ok (.invokevirtual 350, 3) := by decide +kernel
theorem dX11_room_28 : decode cX11_room 28 = .ok (.iadd, 1) := by decide +kernel
theorem dX11_room_29 : decode cX11_room 29 = .ok (.istore_n 1, 1) := by decide +kernel
theorem dX11_room_30 : decode cX11_room 30 = .ok (.iinc 2 1, 3) := by decide +kernel
theorem dX11_room_33 : decode cX11_room 33 = .ok (.goto (-29), 3) := by decide +kernel
theorem dX11_room_36 : decode cX11_room 36 = .ok (.iload_n 1, 1) := by decide +kernel
theorem dX11_room_37 : decode cX11_room 37 = .ok (.ireturn, 1) := by decide +kernel
theorem dX11_season_0 : decode cX11_season 0 = .ok (.aload_n 0, 1) := by decide +kernel
theorem dX11_season_1 : decode cX11_season 1 = .ok (.iload_n 2, 1) := by decide +kernel
theorem dX11_season_2 : decode cX11_season 2 = .ok (.iconst 1, 1) := by decide +kernel
theorem dX11_season_3 : decode cX11_season 3 = .ok (.bipush 96, 2) := by decide +kernel
theorem dX11_season_5 : decode cX11_season 5 = .ok (.invokevirtual 189, 3) := by decide +kernel
theorem dX11_season_8 : decode cX11_season 8 = .ok (.aload_n 0, 1) := by decide +kernel
theorem dX11_season_9 : decode cX11_season 9 = .ok (.iload_n 3, 1) := by decide +kernel
theorem dX11_season_10 : decode cX11_season 10 = .ok (.iconst 0, 1) := by decide +kernel
theorem dX11_season_11 : decode cX11_season 11 = .ok (.bipush 16, 2) := by decide +kernel
theorem dX11_season_13 : decode cX11_season 13 = .ok (.invokevirtual 189, 3) := by decide +kernel
theorem dX11_season_16 : decode cX11_season 16 = .ok (.aload_n 0, 1) := by decide +kernel
theorem dX11_season_17 : decode cX11_season 17 = .ok (.iload 4, 2) := by decide +kernel
theorem dX11_season_19 : decode cX11_season 19 = .ok (.iconst 0, 1) := by decide +kernel
theorem dX11_season_20 : decode cX11_season 20 = .ok (.iconst 2, 1) := by decide +kernel
theorem dX11_season_21 : decode cX11_season 21 = .ok (.invokevirtual 189, 3) := by decide +kernel
theorem dX11_season_24 : decode cX11_season 24 = .ok (.aload_n 0, 1) := by decide +kernel
theorem dX11_season_25 : decode cX11_season 25 = .ok (.getfield 40, 3) := by decide +kernel
theorem dX11_season_28 : decode cX11_season 28 = .ok (.aload_n 0, 1) := by decide +kernel
theorem dX11_season_29 : decode cX11_season 29 = .ok (.getfield 33, 3) := by decide +kernel
theorem dX11_season_32 : decode cX11_season 32 = .ok (.aload_n 0, 1) := by decide +kernel
theorem dX11_season_33 : decode cX11_season 33 = .ok (.getfield 68, 3) := by decide +kernel
theorem dX11_season_36 : decode cX11_season 36 = .ok (.aload_n 0, 1) := by decide +kernel
theorem dX11_season_37 : decode cX11_season 37 = .ok (.getfield 78, 3) := by decide +kernel
theorem dX11_season_40 : decode cX11_season 40 = .ok (.iload_n 1, 1) := by decide +kernel
theorem dX11_season_41 : decode cX11_season 41 = .ok (.iload_n 2, 1) := by decide +kernel
theorem dX11_season_42 : decode cX11_season 42 = .ok (.iload_n 3, 1) := by decide +kernel
theorem dX11_season_43 : decode cX11_season 43 = .ok (.invokevirtual 353, 3) := by decide +kernel
theorem dX11_season_46 : decode cX11_season 46 = .ok (.iload 4, 2) := by decide +kernel
theorem dX11_season_48 : decode cX11_season 48 = .ok (.ifCond .ne 14, 3) := by decide +kernel
theorem dX11_season_51 : decode cX11_season 51 = .ok (.aload_n 0, 1) := by decide +kernel
theorem dX11_season_52 : decode cX11_season 52 = .ok (.getfield 40, 3) := by decide +kernel
theorem dX11_season_55 : decode cX11_season 55 = .ok (.getfield 357, 3) := by decide +kernel
theorem dX11_season_58 : decode cX11_season 58 = .ok (.getfield 209, 3) := by decide +kernel
theorem dX11_season_61 : decode cX11_season 61 = .ok (.ireturn, 1) := by decide +kernel
theorem dX11_season_62 : decode cX11_season 62 = .ok (.iload 4, 2) := by decide +kernel
theorem dX11_season_64 : decode cX11_season 64 = .ok (.iconst 1, 1) := by decide +kernel
theorem dX11_season_65 : decode cX11_season 65 = .ok (.if_icmp .ne 16, 3) := by decide +kernel
theorem dX11_season_68 : decode cX11_season 68 = .ok (.aload_n 0, 1) := by decide +kernel
theorem dX11_season_69 : decode cX11_season 69 = .ok (.getfield 40, 3) := by decide +kernel
theorem dX11_season_72 : decode cX11_season 72 = .ok (.getfield 357, 3) := by decide +kernel
theorem dX11_season_75 : decode cX11_season 75 = .ok (.getfield 206, 3) := by decide +kernel
theorem dX11_season_78 : decode cX11_season 78 = .ok (.goto 13, 3) := by decide +kernel
theorem dX11_season_81 : decode cX11_season 81 = .ok (.aload_n 0, 1) := by decide +kernel
theorem dX11_season_82 : decode cX11_season 82 = .ok (.getfield 40, 3) := by decide +kernel
theorem dX11_season_85 : decode cX11_season 85 = .ok (.getfield 357, 3) := by decide +kernel
theorem dX11_season_88 : decode cX11_season 88 = .ok (.invokevirtual 203, 3) := by decide +kernel
theorem dX11_season_91 : decode cX11_season 91 = .ok (.ireturn, 1) := by decide +kernel
theorem dX11_span_0 : decode cX11_span 0 = .ok (.aload_n 0, 1) := by decide +kernel
theorem dX11_span_1 : decode cX11_span 1 = .ok (.iload_n 2, 1) := by decide +kernel
theorem dX11_span_2 : decode cX11_span 2 = .ok (.iconst 1, 1) := by decide +kernel
theorem dX11_span_3 : decode cX11_span 3 = .ok (.bipush 20, 2) := by decide +kernel
theorem dX11_span_5 : decode cX11_span 5 = .ok (.invokevirtual 189, 3) := by decide +kernel
theorem dX11_span_8 : decode cX11_span 8 = .ok (.aload_n 0, 1) := by decide +kernel
theorem dX11_span_9 : decode cX11_span 9 = .ok (.iload_n 3, 1) := by decide +kernel
theorem dX11_span_10 : decode cX11_span 10 = .ok (.iconst 1, 1) := by decide +kernel
theorem dX11_span_11 : decode cX11_span 11 = .ok (.bipush 96, 2) := by decide +kernel
theorem dX11_span_13 : decode cX11_span 13 = .ok (.invokevirtual 189, 3) := by decide +kernel
theorem dX11_span_16 : decode cX11_span 16 = .ok (.aload_n 0, 1) := by decide +kernel
theorem dX11_span_17 : decode cX11_span 17 = .ok (.iload 4, 2) := by decide +kernel
theorem dX11_span_19 : decode cX11_span 19 = .ok (.iconst 0, 1) := by decide +kernel
theorem dX11_span_20 : decode cX11_span 20 = .ok (.bipush 16, 2) := by decide +kernel
theorem dX11_span_22 : decode cX11_span 22 = .ok (.invokevirtual 189, 3) := by decide +kernel
theorem dX11_span_25 : decode cX11_span 25 = .ok (.aload_n 0, 1) := by decide +kernel
theorem dX11_span_26 : decode cX11_span 26 = .ok (.iload 5, 2) := by decide +kernel
theorem dX11_span_28 : decode cX11_span 28 = .ok (.iconst 0, 1) := by decide +kernel
theorem dX11_span_29 : decode cX11_span 29 = .ok (.iconst 2, 1) := by decide +kernel
theorem dX11_span_30 : decode cX11_span 30 = .ok (.invokevirtual 189, 3) := by decide +kernel
theorem dX11_span_33 : decode cX11_span 33 = .ok (.aload_n 0, 1) := by decide +kernel
theorem dX11_span_34 : decode cX11_span 34 = .ok (.iload 6, 2) := by decide +kernel
theorem dX11_span_36 : decode cX11_span 36 = .ok (.iconst 0, 1) := by decide +kernel
theorem dX11_span_37 : decode cX11_span 37 = .ok (.aload_n 0, 1) := by decide +kernel
theorem dX11_span_38 : decode cX11_span 38 = .ok (.getfield 68, 3) := by decide +kernel
theorem dX11_span_41 : decode cX11_span 41 = .ok (.getfield 144, 3) := by decide +kernel
theorem dX11_span_44 : decode cX11_span 44 = .ok (.iconst 1, 1) := by decide +kernel
theorem dX11_span_45 : decode cX11_span 45 = .ok (.isub, 1) := by decide +kernel
theorem dX11_span_46 : decode cX11_span 46 = .ok (.invokevirtual 189, 3) := by decide +kernel
theorem dX11_span_49 : decode cX11_span 49 = .ok (.ldc_w 269, 3) := by decide +kernel
theorem dX11_span_52 : decode cX11_span 52 = .ok (.istore 7, 2) := by decide +kernel
theorem dX11_span_54 : decode cX11_span 54 = .ok (.iconst 0, 1) := by decide +kernel
theorem dX11_span_55 : decode cX11_span 55 = .ok (.istore 8, 2) := by decide +kernel
theorem dX11_span_57 : decode cX11_span 57 = .ok (.iconst 0, 1) := by decide +kernel
theorem dX11_span_58 : decode cX11_span 58 = .ok (.istore 9, 2) := by decide +kernel
theorem dX11_span_60 : decode cX11_span 60 = .ok (.iconst 0, 1) := by decide +kernel
theorem dX11_span_61 : decode cX11_span 61 = .ok (.istore 10, 2) := by decide +kernel
theorem dX11_span_63 : decode cX11_span 63 = .ok (.iload 10, 2) := by decide +kernel
theorem dX11_span_65 : decode cX11_span 65 = .ok (.iload_n 2, 1) := by decide +kernel
theorem dX11_span_66 : decode cX11_span 66 = .ok (.if_icmp .ge 98, 3) := by decide +kernel
theorem dX11_span_69 : decode cX11_span 69 = .ok (.aload_n 0, 1) := by decide +kernel
theorem dX11_span_70 : decode cX11_span 70 = .ok (.getfield 40, 3) := by decide +kernel
theorem dX11_span_73 : decode cX11_span 73 = .ok (.aload_n 0, 1) := by decide +kernel
theorem dX11_span_74 : decode cX11_span 74 = .ok (.getfield 33, 3) := by decide +kernel
theorem dX11_span_77 : decode cX11_span 77 = .ok (.aload_n 0, 1) := by decide +kernel
theorem dX11_span_78 : decode cX11_span 78 = .ok (.getfield 68, 3) := by decide +kernel
theorem dX11_span_81 : decode cX11_span 81 = .ok (.aload_n 0, 1) := by decide +kernel
theorem dX11_span_82 : decode cX11_span 82 = .ok (.getfield 78, 3) := by decide +kernel
theorem dX11_span_85 : decode cX11_span 85 = .ok (.iload_n 1, 1) := by decide +kernel
theorem dX11_span_86 : decode cX11_span 86 = .ok (.iload 10, 2) := by decide +kernel
theorem dX11_span_88 : decode cX11_span 88 = .ok (.iadd, 1) := by decide +kernel
theorem dX11_span_89 : decode cX11_span 89 = .ok (.iload_n 3, 1) := by decide +kernel
theorem dX11_span_90 : decode cX11_span 90 = .ok (.iload 4, 2) := by decide +kernel
theorem dX11_span_92 : decode cX11_span 92 = .ok (.invokevirtual 353, 3) := by decide +kernel
theorem dX11_span_95 : decode cX11_span 95 = .ok (.iload 7, 2) := by decide +kernel
theorem dX11_span_97 : decode cX11_span 97 = .ok (.aload_n 0, 1) := by decide +kernel
theorem dX11_span_98 : decode cX11_span 98 = .ok (.getfield 40, 3) := by decide +kernel
theorem dX11_span_101 : decode cX11_span 101 = .ok (.getfield 357, 3) := by decide +kernel
theorem dX11_span_104 : decode cX11_span 104 = .ok (.getfield 206, 3) := by decide +kernel
theorem dX11_span_107 : decode cX11_span 107 = .ok (.invokestatic 307, 3) := by decide +kernel
theorem dX11_span_110 : decode cX11_span 110 = .ok (.istore 7, 2) := by decide +kernel
theorem dX11_span_112 : decode cX11_span 112 = .ok (.iload 8, 2) := by decide +kernel
theorem dX11_span_114 : decode cX11_span 114 = .ok (.aload_n 0, 1) := by decide +kernel
theorem dX11_span_115 : decode cX11_span 115 = .ok (.getfield 40, 3) := by decide +kernel
theorem dX11_span_118 : decode cX11_span 118 = .ok (.getfield 357, 3) := by decide +kernel
theorem dX11_span_121 : decode cX11_span 121 = .ok (.getfield 206, 3) := by decide +kernel
theorem dX11_span_124 : decode cX11_span 124 = .ok (.invokestatic 312, 3) := by decide +kernel
theorem dX11_span_127 : decode cX11_span 127 = .ok (.istore 8, 2) := by decide +kernel
theorem dX11_span_129 : decode cX11_span 129 = .ok (.iload 9, 2) := by decide +kernel
theorem dX11_span_131 : decode cX11_span 131 = .ok (.aload_n 0, 1) := by decide +kernel
theorem dX11_span_132 : decode cX11_span 132 = .ok (.getfield 40, 3) := by decide +kernel
theorem dX11_span_135 : decode cX11_span 135 = .ok (.getfield 357, 3) := by decide +kernel
theorem dX11_span_138 : decode cX11_span 138 = .ok (.getfield 218, 3) := by decide +kernel
theorem dX11_span_141 : decode cX11_span 141 = .ok (.iload 6, 2) := by decide +kernel
theorem dX11_span_143 : decode cX11_span 143 = .ok (.aaload, 1) := by decide +kernel
theorem dX11_span_144 : decode cX11_span 144 = .ok (.getfield 233, 3) := by decide +kernel
theorem dX11_span_147 : decode cX11_span 147 = .ok (.ifCond .le 7, 3) := by decide +kernel
theorem dX11_span_150 : decode cX11_span 150 = .ok (.iconst 1, 1) := by decide +kernel
theorem dX11_span_151 : decode cX11_span 151 = .ok (.goto 4, 3) := by decide +kernel
theorem dX11_span_154 : decode cX11_span 154 = .ok (.iconst 0, 1) := by decide +kernel
theorem dX11_span_155 : decode cX11_span 155 = .ok (.iadd, 1) := by decide +kernel
theorem dX11_span_156 : decode cX11_span 156 = .ok (.istore 9, 2) := by decide +kernel
theorem dX11_span_158 : decode cX11_span 158 = .ok (.iinc 10 1, 3) := by decide +kernel
theorem dX11_span_161 : decode cX11_span 161 = .ok (.goto (-98), 3) := by decide +kernel
theorem dX11_span_164 : decode cX11_span 164 = .ok (.iload 5, 2) := by decide +kernel
theorem dX11_span_166 : decode cX11_span 166 = .ok (.ifCond .ne 6, 3) := by decide +kernel
theorem dX11_span_169 : decode cX11_span 169 = .ok (.iload 7, 2) := by decide +kernel
theorem dX11_span_171 : decode cX11_span 171 = .ok (.ireturn, 1) := by decide +kernel
theorem dX11_span_172 : decode cX11_span 172 = .ok (.iload 5, 2) := by decide +kernel
theorem dX11_span_174 : decode cX11_span 174 = .ok (.iconst 1, 1) := by decide +kernel
theorem dX11_span_175 : decode cX11_span 175 = .ok (.if_icmp .ne 8, 3) := by decide +kernel
theorem dX11_span_178 : decode cX11_span 178 = .ok (.iload 8, 2) := by decide +kernel
theorem dX11_span_180 : decode cX11_span 180 = .ok (.goto 5, 3) := by decide +kernel
theorem dX11_span_183 : decode cX11_span 183 = .ok (.iload 9, 2) := by decide +kernel
theorem dX11_span_185 : decode cX11_span 185 = .ok (.ireturn, 1) := by decide +kernel
theorem dX11_image_0 : decode cX11_image 0 = .ok (.aload_n 0, 1) := by decide +kernel
theorem dX11_image_1 : decode cX11_image 1 = .ok (.getfield 26, 3) := by decide +kernel
theorem dX11_image_4 : decode cX11_image 4 = .ok (.getfield 360, 3) := by decide +kernel
theorem dX11_image_7 : decode cX11_image 7 = .ok (.iconst 3, 1) := by decide +kernel
theorem dX11_image_8 : decode cX11_image 8 = .ok (.if_icmp .lt 5, 3) := by decide +kernel
theorem dX11_image_11 : decode cX11_image 11 = .ok (.iconst (-1), 1) := by decide +kernel
theorem dX11_image_12 : decode cX11_image 12 = .ok (.ireturn, 1) := by decide +kernel
theorem dX11_image_13 : decode cX11_image 13 = .ok (.aload_n 0, 1) := by decide +kernel
theorem dX11_image_14 : decode cX11_image 14 = .ok (.getfield 26, 3) := by decide +kernel
theorem dX11_image_17 : decode cX11_image 17 = .ok (.aload_n 0, 1) := by decide +kernel
theorem dX11_image_18 : decode cX11_image 18 = .ok (.getfield 33, 3) := by decide +kernel
theorem dX11_image_21 : decode cX11_image 21 = .ok (.invokevirtual 363, 3) := by decide +kernel
theorem dX11_image_24 : decode cX11_image 24 = .ok (.aload_n 0, 1) := by decide +kernel
theorem dX11_image_25 : decode cX11_image 25 = .ok (.getfield 26, 3) := by decide +kernel
theorem dX11_image_28 : decode cX11_image 28 = .ok (.getfield 360, 3) := by decide +kernel
theorem dX11_image_31 : decode cX11_image 31 = .ok (.ireturn, 1) := by decide +kernel
theorem dX11_restore_0 : decode cX11_restore 0 = .ok (.aload_n 0, 1) := by decide +kernel
theorem dX11_restore_1 : decode cX11_restore 1 = .ok (.getfield 26, 3) := by decide +kernel
theorem dX11_restore_4 : decode cX11_restore 4 = .ok (.getfield 360, 3) := by decide +kernel
theorem dX11_restore_7 : decode cX11_restore 7 = .ok (.ifCond .ne 5, 3) := by decide +kernel
theorem dX11_restore_10 : decode cX11_restore 10 = .ok (.iconst (-1), 1) := by decide +kernel
theorem dX11_restore_11 : decode cX11_restore 11 = .ok (.ireturn, 1) := by decide +kernel
theorem dX11_restore_12 : decode cX11_restore 12 = .ok (.aload_n 0, 1) := by decide +kernel
theorem dX11_restore_13 : decode cX11_restore 13 = .ok (.getfield 26, 3) := by decide +kernel
theorem dX11_restore_16 : decode cX11_restore 16 = .ok (.aload_n 0, 1) := by decide +kernel
theorem dX11_restore_17 : decode cX11_restore 17 = .ok (.getfield 33, 3) := by decide +kernel
theorem dX11_restore_20 : decode cX11_restore 20 = .ok (.invokevirtual 366, 3) := by decide +kernel
theorem dX11_restore_23 : decode cX11_restore 23 = .ok (.aload_n 0, 1) := by decide +kernel
theorem dX11_restore_24 : decode cX11_restore 24 = .ok (.iconst 0, 1) := by decide +kernel
theorem dX11_restore_25 : decode cX11_restore 25 = .ok (.putfield 141, 3) := by decide +kernel
theorem dX11_restore_28 : decode cX11_restore 28 = .ok (.aload_n 0, 1) := by decide +kernel
theorem dX11_restore_29 : decode cX11_restore 29 = .ok (.getfield 26, 3) := by decide +kernel
theorem dX11_restore_32 : decode cX11_restore 32 = .ok (.getfield 360, 3) := by decide +kernel
theorem dX11_restore_35 : decode cX11_restore 35 = .ok (.ireturn, 1) := by decide +kernel
theorem dX11_status_0 : decode cX11_status 0 = .ok (.iload_n 1, 1) := by decide +kernel
theorem dX11_status_1 : decode cX11_status 1 = .ok (.ifCond .lt 17, 3) := by decide +kernel
theorem dX11_status_4 : decode cX11_status 4 = .ok (.iload_n 1, 1) := by decide +kernel
theorem dX11_status_5 : decode cX11_status 5 = .ok (.iconst 5, 1) := by decide +kernel
theorem dX11_status_6 : decode cX11_status 6 = .ok (.if_icmp .ge 12, 3) := by decide +kernel
theorem dX11_status_9 : decode cX11_status 9 = .ok (.aload_n 0, 1) := by decide +kernel
theorem dX11_status_10 : decode cX11_status 10 = .ok (.getfield 62, 3) := by decide +kernel
theorem dX11_status_13 : decode cX11_status 13 = .ok (.iload_n 1, 1) := by decide +kernel
theorem dX11_status_14 : decode cX11_status 14 = .ok (.iaload, 1) := by decide +kernel
theorem dX11_status_15 : decode cX11_status 15 = .ok (.goto 4, 3) := by decide +kernel
theorem dX11_status_18 : decode cX11_status 18 = .ok (.iconst (-1), 1) := by decide +kernel
theorem dX11_status_19 : decode cX11_status 19 = .ok (.ireturn, 1) := by decide +kernel
theorem dX11_count_0 : decode cX11_count 0 = .ok (.iload_n 1, 1) := by decide +kernel
theorem dX11_count_1 : decode cX11_count 1 = .ok (.tableswitch 51 0 2 #[27, 35, 43], 27) := by decide +kernel
theorem dX11_count_28 : decode cX11_count 28 = .ok (.aload_n 0, 1) := by decide +kernel
theorem dX11_count_29 : decode cX11_count 29 = .ok (.getfield 26, 3) := by decide +kernel
theorem dX11_count_32 : decode cX11_count 32 = .ok (.getfield 360, 3) := by decide +kernel
theorem dX11_count_35 : decode cX11_count 35 = .ok (.ireturn, 1) := by decide +kernel
theorem dX11_count_36 : decode cX11_count 36 = .ok (.aload_n 0, 1) := by decide +kernel
theorem dX11_count_37 : decode cX11_count 37 = .ok (.getfield 10, 3) := by decide +kernel
theorem dX11_count_40 : decode cX11_count 40 = .ok (.getfield 105, 3) := by decide +kernel
theorem dX11_count_43 : decode cX11_count 43 = .ok (.ireturn, 1) := by decide +kernel
theorem dX11_count_44 : decode cX11_count 44 = .ok (.aload_n 0, 1) := by decide +kernel
theorem dX11_count_45 : decode cX11_count 45 = .ok (.getfield 26, 3) := by decide +kernel
theorem dX11_count_48 : decode cX11_count 48 = .ok (.getfield 148, 3) := by decide +kernel
theorem dX11_count_51 : decode cX11_count 51 = .ok (.ireturn, 1) := by decide +kernel
theorem dX11_count_52 : decode cX11_count 52 = .ok (.iconst (-1), 1) := by decide +kernel
theorem dX11_count_53 : decode cX11_count 53 = .ok (.ireturn, 1) := by decide +kernel
theorem dX11_refuseElement_0 : decode cX11_refuseElement 0 = .ok (.aload_n 0, 1) := by decide +kernel
theorem dX11_refuseElement_1 : decode cX11_refuseElement 1 = .ok (.getfield 62, 3) := by decide +kernel
theorem dX11_refuseElement_4 : decode cX11_refuseElement 4 = .ok (.iconst 0, 1) := by decide +kernel
theorem dX11_refuseElement_5 : decode cX11_refuseElement 5 = .ok (.dup2, 1) := by decide +kernel
theorem dX11_refuseElement_6 : decode cX11_refuseElement 6 = .ok (.iaload, 1) := by decide +kernel
theorem dX11_refuseElement_7 : decode cX11_refuseElement 7 = .ok (.iconst 1, 1) := by decide +kernel
theorem dX11_refuseElement_8 : decode cX11_refuseElement 8 = .ok (.iadd, 1) := by decide +kernel
theorem dX11_refuseElement_9 : decode cX11_refuseElement 9 = .ok (.iastore, 1) := by decide +kernel
theorem dX11_refuseElement_10 : decode cX11_refuseElement 10 = .ok (.new 369, 3) := by decide +kernel
theorem dX11_refuseElement_13 : decode cX11_refuseElement 13 = .ok (.dup, 1) := by decide +kernel
theorem dX11_refuseElement_14 : decode cX11_refuseElement 14 = .ok (.ldc_w 371, 3) := by decide +kernel
theorem dX11_refuseElement_17 : decode cX11_refuseElement 17 = .ok (.invokespecial 373, 3) := by decide +kernel
theorem dX11_refuseElement_20 : decode cX11_refuseElement 20 = .ok (.athrow, 1) := by decide +kernel
theorem dX11_refuseArgument_0 : decode cX11_refuseArgument 0 = .ok (.aload_n 0, 1) := by decide +kernel
theorem dX11_refuseArgument_1 : decode cX11_refuseArgument 1 = .ok (.getfield 62, 3) := by decide +kernel
theorem dX11_refuseArgument_4 : decode cX11_refuseArgument 4 = .ok (.iconst 1, 1) := by decide +kernel
theorem dX11_refuseArgument_5 : decode cX11_refuseArgument 5 = .ok (.dup2, 1) := by decide +kernel
theorem dX11_refuseArgument_6 : decode cX11_refuseArgument 6 = .ok (.iaload, 1) := by decide +kernel
theorem dX11_refuseArgument_7 : decode cX11_refuseArgument 7 = .ok (.iconst 1, 1) := by decide +kernel
theorem dX11_refuseArgument_8 : decode cX11_refuseArgument 8 = .ok (.iadd, 1) := by decide +kernel
theorem dX11_refuseArgument_9 : decode cX11_refuseArgument 9 = .ok (.iastore, 1) := by decide +kernel
theorem dX11_refuseArgument_10 : decode cX11_refuseArgument 10 = .ok (.new 374, 3) := by decide +kernel
theorem dX11_refuseArgument_13 : decode cX11_refuseArgument 13 = .ok (.dup, 1) := by decide +kernel
theorem dX11_refuseArgument_14 : decode cX11_refuseArgument 14 = .ok (.ldc_w 376, 3) := by decide +kernel
theorem dX11_refuseArgument_17 : decode cX11_refuseArgument 17 = .ok (.invokespecial 378, 3) := by decide +kernel
theorem dX11_refuseArgument_20 : decode cX11_refuseArgument 20 = .ok (.athrow, 1) := by decide +kernel
theorem dX11_refuseArithmetic_0 : decode cX11_refuseArithmetic 0 = .ok (.aload_n 0, 1) := by decide +kernel
theorem dX11_refuseArithmetic_1 : decode cX11_refuseArithmetic 1 = .ok (.getfield 62, 3) := by decide +kernel
theorem dX11_refuseArithmetic_4 : decode cX11_refuseArithmetic 4 = .ok (.iconst 4, 1) := by decide +kernel
theorem dX11_refuseArithmetic_5 : decode cX11_refuseArithmetic 5 = .ok (.dup2, 1) := by decide +kernel
theorem dX11_refuseArithmetic_6 : decode cX11_refuseArithmetic 6 = .ok (.iaload, 1) := by decide +kernel
theorem dX11_refuseArithmetic_7 : decode cX11_refuseArithmetic 7 = .ok (.iconst 1, 1) := by decide +kernel
theorem dX11_refuseArithmetic_8 : decode cX11_refuseArithmetic 8 = .ok (.iadd, 1) := by decide +kernel
theorem dX11_refuseArithmetic_9 : decode cX11_refuseArithmetic 9 = .ok (.iastore, 1) := by decide +kernel
theorem dX11_refuseArithmetic_10 : decode cX11_refuseArithmetic 10 = .ok (.new 379, 3) := by decide +kernel
theorem dX11_refuseArithmetic_13 : decode cX11_refuseArithmetic 13 = .ok (.dup, 1) := by decide +kernel
theorem dX11_refuseArithmetic_14 : decode cX11_refuseArithmetic 14 = .ok (.ldc_w 381, 3) := by decide +kernel
theorem dX11_refuseArithmetic_17 : decode cX11_refuseArithmetic 17 = .ok (.invokespecial 383, 3) := by decide +kernel
theorem dX11_refuseArithmetic_20 : decode cX11_refuseArithmetic 20 = .ok (.athrow, 1) := by decide +kernel
theorem dX11_needPen_0 : decode cX11_needPen 0 = .ok (.iload_n 1, 1) := by decide +kernel
theorem dX11_needPen_1 : decode cX11_needPen 1 = .ok (.ifCond .lt 14, 3) := by decide +kernel
theorem dX11_needPen_4 : decode cX11_needPen 4 = .ok (.iload_n 1, 1) := by decide +kernel
theorem dX11_needPen_5 : decode cX11_needPen 5 = .ok (.aload_n 0, 1) := by decide +kernel
theorem dX11_needPen_6 : decode cX11_needPen 6 = .ok (.getfield 68, 3) := by decide +kernel
theorem dX11_needPen_9 : decode cX11_needPen 9 = .ok (.getfield 144, 3) := by decide +kernel
theorem dX11_needPen_12 : decode cX11_needPen 12 = .ok (.if_icmp .lt 7, 3) := by decide +kernel
theorem dX11_needPen_15 : decode cX11_needPen 15 = .ok (.aload_n 0, 1) := by decide +kernel
theorem dX11_needPen_16 : decode cX11_needPen 16 = .ok (.invokevirtual 241, 3) := by decide +kernel
theorem dX11_needPen_19 : decode cX11_needPen 19 = .ok (.return_, 1) := by decide +kernel
theorem dX11_needRecord_0 : decode cX11_needRecord 0 = .ok (.iload_n 2, 1) := by decide +kernel
theorem dX11_needRecord_1 : decode cX11_needRecord 1 = .ok (.ifCond .lt 19, 3) := by decide +kernel
theorem dX11_needRecord_4 : decode cX11_needRecord 4 = .ok (.iload_n 2, 1) := by decide +kernel
theorem dX11_needRecord_5 : decode cX11_needRecord 5 = .ok (.aload_n 0, 1) := by decide +kernel
theorem dX11_needRecord_6 : decode cX11_needRecord 6 = .ok (.getfield 33, 3) := by decide +kernel
theorem dX11_needRecord_9 : decode cX11_needRecord 9 = .ok (.getfield 218, 3) := by decide +kernel
theorem dX11_needRecord_12 : decode cX11_needRecord 12 = .ok (.iload_n 1, 1) := by decide +kernel
theorem dX11_needRecord_13 : decode cX11_needRecord 13 = .ok (.aaload, 1) := by decide +kernel
theorem dX11_needRecord_14 : decode cX11_needRecord 14 = .ok (.getfield 233, 3) := by decide +kernel
theorem dX11_needRecord_17 : decode cX11_needRecord 17 = .ok (.if_icmp .lt 24, 3) := by decide +kernel
theorem dX11_needRecord_20 : decode cX11_needRecord 20 = .ok (.aload_n 0, 1) := by decide +kernel
theorem dX11_needRecord_21 : decode cX11_needRecord 21 = .ok (.getfield 62, 3) := by decide +kernel
theorem dX11_needRecord_24 : decode cX11_needRecord 24 = .ok (.iconst 3, 1) := by decide +kernel
theorem dX11_needRecord_25 : decode cX11_needRecord 25 = .ok (.dup2, 1) := by decide +kernel
theorem dX11_needRecord_26 : decode cX11_needRecord 26 = .ok (.iaload, 1) := by decide +kernel
theorem dX11_needRecord_27 : decode cX11_needRecord 27 = .ok (.iconst 1, 1) := by decide +kernel
theorem dX11_needRecord_28 : decode cX11_needRecord 28 = .ok (.iadd, 1) := by decide +kernel
theorem dX11_needRecord_29 : decode cX11_needRecord 29 = .ok (.iastore, 1) := by decide +kernel
theorem dX11_needRecord_30 : decode cX11_needRecord 30 = .ok (.new 384, 3) := by decide +kernel
theorem dX11_needRecord_33 : decode cX11_needRecord 33 = .ok (.dup, 1) := by decide +kernel
theorem dX11_needRecord_34 : decode cX11_needRecord 34 = .ok (.ldc_w 386, 3) := by decide +kernel
theorem dX11_needRecord_37 : decode cX11_needRecord 37 = .ok (.invokespecial 388, 3) := by decide +kernel
theorem dX11_needRecord_40 : decode cX11_needRecord 40 = .ok (.athrow, 1) := by decide +kernel
theorem dX11_needRecord_41 : decode cX11_needRecord 41 = .ok (.return_, 1) := by decide +kernel
theorem dX11_needWithin_0 : decode cX11_needWithin 0 = .ok (.iload_n 1, 1) := by decide +kernel
theorem dX11_needWithin_1 : decode cX11_needWithin 1 = .ok (.iload_n 2, 1) := by decide +kernel
theorem dX11_needWithin_2 : decode cX11_needWithin 2 = .ok (.if_icmp .lt 8, 3) := by decide +kernel
theorem dX11_needWithin_5 : decode cX11_needWithin 5 = .ok (.iload_n 1, 1) := by decide +kernel
theorem dX11_needWithin_6 : decode cX11_needWithin 6 = .ok (.iload_n 3, 1) := by decide +kernel
theorem dX11_needWithin_7 : decode cX11_needWithin 7 = .ok (.if_icmp .le 7, 3) := by decide +kernel
theorem dX11_needWithin_10 : decode cX11_needWithin 10 = .ok (.aload_n 0, 1) := by decide +kernel
theorem dX11_needWithin_11 : decode cX11_needWithin 11 = .ok (.invokevirtual 301, 3) := by decide +kernel
theorem dX11_needWithin_14 : decode cX11_needWithin 14 = .ok (.return_, 1) := by decide +kernel
theorem dX11_needText_0 : decode cX11_needText 0 = .ok (.aload_n 0, 1) := by decide +kernel
theorem dX11_needText_1 : decode cX11_needText 1 = .ok (.iload_n 1, 1) := by decide +kernel
theorem dX11_needText_2 : decode cX11_needText 2 = .ok (.iconst 0, 1) := by decide +kernel
theorem dX11_needText_3 : decode cX11_needText 3 = .ok (.iload_n 2, 1) := by decide +kernel
theorem dX11_needText_4 : decode cX11_needText 4 = .ok (.aload_n 0, 1) := by decide +kernel
theorem dX11_needText_5 : decode cX11_needText 5 = .ok (.getfield 10, 3) := by decide +kernel
theorem dX11_needText_8 : decode cX11_needText 8 = .ok (.getfield 105, 3) := by decide +kernel
theorem dX11_needText_11 : decode cX11_needText 11 = .ok (.invokestatic 307, 3) := by decide +kernel
theorem dX11_needText_14 : decode cX11_needText 14 = .ok (.invokevirtual 189, 3) := by decide +kernel
theorem dX11_needText_17 : decode cX11_needText 17 = .ok (.return_, 1) := by decide +kernel
theorem dX11_distance_0 : decode cX11_distance 0 = .ok (.ldc2_w 389, 3) := by decide +kernel
theorem dX11_distance_3 : decode cX11_distance 3 = .ok (.iload_n 0, 1) := by decide +kernel
theorem dX11_distance_4 : decode cX11_distance 4 = .ok (.i2l, 1) := by decide +kernel
theorem dX11_distance_5 : decode cX11_distance 5 = .ok (.iload_n 1, 1) := by decide +kernel
theorem dX11_distance_6 : decode cX11_distance 6 = .ok (.i2l, 1) := by decide +kernel
theorem dX11_distance_7 : decode cX11_distance 7 = .ok (.lsub, 1) := by decide +kernel
theorem dX11_distance_8 : decode cX11_distance 8 = .ok (.invokestatic 391, 3) := by decide +kernel
theorem dX11_distance_11 : decode cX11_distance 11 = .ok (.invokestatic 395, 3) := by decide +kernel
theorem dX11_distance_14 : decode cX11_distance 14 = .ok (.l2i, 1) := by decide +kernel
theorem dX11_distance_15 : decode cX11_distance 15 = .ok (.ireturn, 1) := by decide +kernel
theorem dX11_sheetBits_0 : decode cX11_sheetBits 0 = .ok (.iconst 0, 1) := by decide +kernel
theorem dX11_sheetBits_1 : decode cX11_sheetBits 1 = .ok (.istore_n 1, 1) := by decide +kernel
theorem dX11_sheetBits_2 : decode cX11_sheetBits 2 = .ok (.iconst 0, 1) := by decide +kernel
theorem dX11_sheetBits_3 : decode cX11_sheetBits 3 = .ok (.istore_n 2, 1) := by decide +kernel
theorem dX11_sheetBits_4 : decode cX11_sheetBits 4 = .ok (.iload_n 2, 1) := by decide +kernel
theorem dX11_sheetBits_5 : decode cX11_sheetBits 5 = .ok (.aload_n 0, 1) := by decide +kernel
theorem dX11_sheetBits_6 : decode cX11_sheetBits 6 = .ok (.getfield 68, 3) := by decide +kernel
theorem dX11_sheetBits_9 : decode cX11_sheetBits 9 = .ok (.getfield 144, 3) := by decide +kernel
theorem dX11_sheetBits_12 : decode cX11_sheetBits 12 = .ok (.if_icmp .ge 31, 3) := by decide +kernel
theorem dX11_sheetBits_15 : decode cX11_sheetBits 15 = .ok (.aload_n 0, 1) := by decide +kernel
theorem dX11_sheetBits_16 : decode cX11_sheetBits 16 = .ok (.getfield 33, 3) := by decide +kernel
theorem dX11_sheetBits_19 : decode cX11_sheetBits 19 = .ok (.getfield 218, 3) := by decide +kernel
theorem dX11_sheetBits_22 : decode cX11_sheetBits 22 = .ok (.iload_n 2, 1) := by decide +kernel
theorem dX11_sheetBits_23 : decode cX11_sheetBits 23 = .ok (.aaload, 1) := by decide +kernel
theorem dX11_sheetBits_24 : decode cX11_sheetBits 24 = .ok (.getfield 230, 3) := by decide +kernel
theorem dX11_sheetBits_27 : decode cX11_sheetBits 27 = .ok (.iconst (-1), 1) := by decide +kernel
theorem dX11_sheetBits_28 : decode cX11_sheetBits 28 = .ok (.if_icmp .eq 9, 3) := by decide +kernel
theorem dX11_sheetBits_31 : decode cX11_sheetBits 31 = .ok (.iload_n 1, 1) := by decide +kernel
theorem dX11_sheetBits_32 : decode cX11_sheetBits 32 = .ok (.iconst 1, 1) := by decide +kernel
theorem dX11_sheetBits_33 : decode cX11_sheetBits 33 = .ok (.iload_n 2, 1) := by decide +kernel
theorem dX11_sheetBits_34 : decode cX11_sheetBits 34 = .ok (.ishl, 1) := by decide +kernel
theorem dX11_sheetBits_35 : decode cX11_sheetBits 35 = .ok (.ior, 1) := by decide +kernel
theorem dX11_sheetBits_36 : decode cX11_sheetBits 36 = .ok (.istore_n 1, 1) := by decide +kernel
theorem dX11_sheetBits_37 : decode cX11_sheetBits 37 = .ok (.iinc 2 1, 3) := by decide +kernel
theorem dX11_sheetBits_40 : decode cX11_sheetBits 40 = .ok (.goto (-36), 3) := by decide +kernel
theorem dX11_sheetBits_43 : decode cX11_sheetBits 43 = .ok (.iload_n 1, 1) := by decide +kernel
theorem dX11_sheetBits_44 : decode cX11_sheetBits 44 = .ok (.ireturn, 1) := by decide +kernel
theorem dX11_jamBits_0 : decode cX11_jamBits 0 = .ok (.iconst 0, 1) := by decide +kernel
theorem dX11_jamBits_1 : decode cX11_jamBits 1 = .ok (.istore_n 1, 1) := by decide +kernel
theorem dX11_jamBits_2 : decode cX11_jamBits 2 = .ok (.iconst 0, 1) := by decide +kernel
theorem dX11_jamBits_3 : decode cX11_jamBits 3 = .ok (.istore_n 2, 1) := by decide +kernel
theorem dX11_jamBits_4 : decode cX11_jamBits 4 = .ok (.iload_n 2, 1) := by decide +kernel
theorem dX11_jamBits_5 : decode cX11_jamBits 5 = .ok (.aload_n 0, 1) := by decide +kernel
theorem dX11_jamBits_6 : decode cX11_jamBits 6 = .ok (.getfield 68, 3) := by decide +kernel
theorem dX11_jamBits_9 : decode cX11_jamBits 9 = .ok (.getfield 144, 3) := by decide +kernel
theorem dX11_jamBits_12 : decode cX11_jamBits 12 = .ok (.if_icmp .ge 30, 3) := by decide +kernel
theorem dX11_jamBits_15 : decode cX11_jamBits 15 = .ok (.aload_n 0, 1) := by decide +kernel
theorem dX11_jamBits_16 : decode cX11_jamBits 16 = .ok (.getfield 33, 3) := by decide +kernel
theorem dX11_jamBits_19 : decode cX11_jamBits 19 = .ok (.getfield 218, 3) := by decide +kernel
theorem dX11_jamBits_22 : decode cX11_jamBits 22 = .ok (.iload_n 2, 1) := by decide +kernel
theorem dX11_jamBits_23 : decode cX11_jamBits 23 = .ok (.aaload, 1) := by decide +kernel
theorem dX11_jamBits_24 : decode cX11_jamBits 24 = .ok (.invokevirtual 256, 3) := by decide +kernel
theorem dX11_jamBits_27 : decode cX11_jamBits 27 = .ok (.ifCond .eq 9, 3) := by decide +kernel
theorem dX11_jamBits_30 : decode cX11_jamBits 30 = .ok (.iload_n 1, 1) := by decide +kernel
theorem dX11_jamBits_31 : decode cX11_jamBits 31 = .ok (.iconst 1, 1) := by decide +kernel
theorem dX11_jamBits_32 : decode cX11_jamBits 32 = .ok (.iload_n 2, 1) := by decide +kernel
theorem dX11_jamBits_33 : decode cX11_jamBits 33 = .ok (.ishl, 1) := by decide +kernel
theorem dX11_jamBits_34 : decode cX11_jamBits 34 = .ok (.ior, 1) := by decide +kernel
theorem dX11_jamBits_35 : decode cX11_jamBits 35 = .ok (.istore_n 1, 1) := by decide +kernel
theorem dX11_jamBits_36 : decode cX11_jamBits 36 = .ok (.iinc 2 1, 3) := by decide +kernel
theorem dX11_jamBits_39 : decode cX11_jamBits 39 = .ok (.goto (-35), 3) := by decide +kernel
theorem dX11_jamBits_42 : decode cX11_jamBits 42 = .ok (.iload_n 1, 1) := by decide +kernel
theorem dX11_jamBits_43 : decode cX11_jamBits 43 = .ok (.ireturn, 1) := by decide +kernel
theorem dX11_chainJams_0 : decode cX11_chainJams 0 = .ok (.iconst 0, 1) := by decide +kernel
theorem dX11_chainJams_1 : decode cX11_chainJams 1 = .ok (.istore_n 1, 1) := by decide +kernel
theorem dX11_chainJams_2 : decode cX11_chainJams 2 = .ok (.iload_n 1, 1) := by decide +kernel
theorem dX11_chainJams_3 : decode cX11_chainJams 3 = .ok (.aload_n 0, 1) := by decide +kernel
theorem dX11_chainJams_4 : decode cX11_chainJams 4 = .ok (.getfield 88, 3) := by decide +kernel
theorem dX11_chainJams_7 : decode cX11_chainJams 7 = .ok (.getfield 176, 3) := by decide +kernel
theorem dX11_chainJams_10 : decode cX11_chainJams 10 = .ok (.if_icmp .ge 34, 3) := by decide +kernel
theorem dX11_chainJams_13 : decode cX11_chainJams 13 = .ok (.aload_n 0, 1) := by decide +kernel
theorem dX11_chainJams_14 : decode cX11_chainJams 14 = .ok (.getfield 33, 3) := by decide +kernel
theorem dX11_chainJams_17 : decode cX11_chainJams 17 = .ok (.getfield 218, 3) := by decide +kernel
theorem dX11_chainJams_20 : decode cX11_chainJams 20 = .ok (.aload_n 0, 1) := by decide +kernel
theorem dX11_chainJams_21 : decode cX11_chainJams 21 = .ok (.getfield 88, 3) := by decide +kernel
theorem dX11_chainJams_24 : decode cX11_chainJams 24 = .ok (.getfield 348, 3) := by decide +kernel
theorem dX11_chainJams_27 : decode cX11_chainJams 27 = .ok (.iload_n 1, 1) := by decide +kernel
theorem dX11_chainJams_28 : decode cX11_chainJams 28 = .ok (.iaload, 1) := by decide +kernel
theorem dX11_chainJams_29 : decode cX11_chainJams 29 = .ok (.aaload, 1) := by decide +kernel
theorem dX11_chainJams_30 : decode cX11_chainJams 30 = .ok (.invokevirtual 256, 3) := by decide +kernel
theorem dX11_chainJams_33 : decode cX11_chainJams 33 = .ok (.ifCond .eq 5, 3) := by decide +kernel
theorem dX11_chainJams_36 : decode cX11_chainJams 36 = .ok (.iconst 1, 1) := by decide +kernel
theorem dX11_chainJams_37 : decode cX11_chainJams 37 = .ok (.ireturn, 1) := by decide +kernel
theorem dX11_chainJams_38 : decode cX11_chainJams 38 = .ok (.iinc 1 1, 3) := by decide +kernel
theorem dX11_chainJams_41 : decode cX11_chainJams 41 = .ok (.goto (-39), 3) := by decide +kernel
theorem dX11_chainJams_44 : decode cX11_chainJams 44 = .ok (.iconst 0, 1) := by decide +kernel
theorem dX11_chainJams_45 : decode cX11_chainJams 45 = .ok (.ireturn, 1) := by decide +kernel
theorem dX11_chainOut_0 : decode cX11_chainOut 0 = .ok (.iload_n 1, 1) := by decide +kernel
theorem dX11_chainOut_1 : decode cX11_chainOut 1 = .ok (.istore_n 2, 1) := by decide +kernel
theorem dX11_chainOut_2 : decode cX11_chainOut 2 = .ok (.iconst 0, 1) := by decide +kernel
theorem dX11_chainOut_3 : decode cX11_chainOut 3 = .ok (.istore_n 3, 1) := by decide +kernel
theorem dX11_chainOut_4 : decode cX11_chainOut 4 = .ok (.iload_n 3, 1) := by decide +kernel
theorem dX11_chainOut_5 : decode cX11_chainOut 5 = .ok (.aload_n 0, 1) := by decide +kernel
theorem dX11_chainOut_6 : decode cX11_chainOut 6 = .ok (.getfield 88, 3) := by decide +kernel
theorem dX11_chainOut_9 : decode cX11_chainOut 9 = .ok (.getfield 176, 3) := by decide +kernel
theorem dX11_chainOut_12 : decode cX11_chainOut 12 = .ok (.if_icmp .ge 31, 3) := by decide +kernel
theorem dX11_chainOut_15 : decode cX11_chainOut 15 = .ok (.aload_n 0, 1) := by decide +kernel
theorem dX11_chainOut_16 : decode cX11_chainOut 16 = .ok (.getfield 33, 3) := by decide +kernel
theorem dX11_chainOut_19 : decode cX11_chainOut 19 = .ok (.getfield 218, 3) := by decide +kernel
theorem dX11_chainOut_22 : decode cX11_chainOut 22 = .ok (.aload_n 0, 1) := by decide +kernel
theorem dX11_chainOut_23 : decode cX11_chainOut 23 = .ok (.getfield 88, 3) := by decide +kernel
theorem dX11_chainOut_26 : decode cX11_chainOut 26 = .ok (.getfield 348, 3) := by decide +kernel
theorem dX11_chainOut_29 : decode cX11_chainOut 29 = .ok (.iload_n 3, 1) := by decide +kernel
theorem dX11_chainOut_30 : decode cX11_chainOut 30 = .ok (.iaload, 1) := by decide +kernel
theorem dX11_chainOut_31 : decode cX11_chainOut 31 = .ok (.aaload, 1) := by decide +kernel
theorem dX11_chainOut_32 : decode cX11_chainOut 32 = .ok (.iload_n 2, 1) := by decide +kernel
theorem dX11_chainOut_33 : decode cX11_chainOut 33 = .ok (.invokevirtual 262, 3) := by decide +kernel
theorem dX11_chainOut_36 : decode cX11_chainOut 36 = .ok (.istore_n 2, 1) := by decide +kernel
theorem dX11_chainOut_37 : decode cX11_chainOut 37 = .ok (.iinc 3 1, 3) := by decide +kernel
theorem dX11_chainOut_40 : decode cX11_chainOut 40 = .ok (.goto (-36), 3) := by decide +kernel
theorem dX11_chainOut_43 : decode cX11_chainOut 43 = .ok (.iload_n 2, 1) := by decide +kernel
theorem dX11_chainOut_44 : decode cX11_chainOut 44 = .ok (.ireturn, 1) := by decide +kernel
theorem dX11_fillRing_0 : decode cX11_fillRing 0 = .ok (.aload_n 0, 1) := by decide +kernel
theorem dX11_fillRing_1 : decode cX11_fillRing 1 = .ok (.getfield 58, 3) := by decide +kernel
theorem dX11_fillRing_4 : decode cX11_fillRing 4 = .ok (.iconst 0, 1) := by decide +kernel
theorem dX11_fillRing_5 : decode cX11_fillRing 5 = .ok (.iload_n 2, 1) := by decide +kernel
theorem dX11_fillRing_6 : decode cX11_fillRing 6 = .ok (.iastore, 1) := by decide +kernel
theorem dX11_fillRing_7 : decode cX11_fillRing 7 = .ok (.iconst 1, 1) := by decide +kernel
theorem dX11_fillRing_8 : decode cX11_fillRing 8 = .ok (.istore_n 3, 1) := by decide +kernel
theorem dX11_fillRing_9 : decode cX11_fillRing 9 = .ok (.iload_n 3, 1) := by decide +kernel
theorem dX11_fillRing_10 : decode cX11_fillRing 10 = .ok (.sipush 1000, 3) := by decide +kernel
theorem dX11_fillRing_13 : decode cX11_fillRing 13 = .ok (.if_icmp .gt 27, 3) := by decide +kernel
theorem dX11_fillRing_16 : decode cX11_fillRing 16 = .ok (.aload_n 0, 1) := by decide +kernel
theorem dX11_fillRing_17 : decode cX11_fillRing 17 = .ok (.getfield 58, 3) := by decide +kernel
theorem dX11_fillRing_20 : decode cX11_fillRing 20 = .ok (.iload_n 3, 1) := by decide +kernel
theorem dX11_fillRing_21 : decode cX11_fillRing 21 = .ok (.aload_n 1, 1) := by decide +kernel
theorem dX11_fillRing_22 : decode cX11_fillRing 22 = .ok (.aload_n 0, 1) := by decide +kernel
theorem dX11_fillRing_23 : decode cX11_fillRing 23 = .ok (.getfield 58, 3) := by decide +kernel
theorem dX11_fillRing_26 : decode cX11_fillRing 26 = .ok (.iload_n 3, 1) := by decide +kernel
theorem dX11_fillRing_27 : decode cX11_fillRing 27 = .ok (.iconst 1, 1) := by decide +kernel
theorem dX11_fillRing_28 : decode cX11_fillRing 28 = .ok (.isub, 1) := by decide +kernel
theorem dX11_fillRing_29 : decode cX11_fillRing 29 = .ok (.iaload, 1) := by decide +kernel
theorem dX11_fillRing_30 : decode cX11_fillRing 30 = .ok (.invokevirtual 262, 3) := by decide +kernel
theorem dX11_fillRing_33 : decode cX11_fillRing 33 = .ok (.iastore, 1) := by decide +kernel
theorem dX11_fillRing_34 : decode cX11_fillRing 34 = .ok (.iinc 3 1, 3) := by decide +kernel
theorem dX11_fillRing_37 : decode cX11_fillRing 37 = .ok (.goto (-28), 3) := by decide +kernel
theorem dX11_fillRing_40 : decode cX11_fillRing 40 = .ok (.return_, 1) := by decide +kernel
theorem dX11_ringLength_0 : decode cX11_ringLength 0 = .ok (.sipush 999, 3) := by decide +kernel
theorem dX11_ringLength_3 : decode cX11_ringLength 3 = .ok (.istore_n 1, 1) := by decide +kernel
theorem dX11_ringLength_4 : decode cX11_ringLength 4 = .ok (.iload_n 1, 1) := by decide +kernel
theorem dX11_ringLength_5 : decode cX11_ringLength 5 = .ok (.ifCond .lt 32, 3) := by decide +kernel
theorem dX11_ringLength_8 : decode cX11_ringLength 8 = .ok (.aload_n 0, 1) := by decide +kernel
theorem dX11_ringLength_9 : decode cX11_ringLength 9 = .ok (.getfield 58, 3) := by decide +kernel
theorem dX11_ringLength_12 : decode cX11_ringLength 12 = .ok (.iload_n 1, 1) := by decide +kernel
theorem dX11_ringLength_13 : decode cX11_ringLength 13 = .ok (.iaload, 1) := by decide +kernel
theorem dX11_ringLength_14 : decode cX11_ringLength 14 = .ok (.aload_n 0, 1) := by decide +kernel
theorem dX11_ringLength_15 : decode cX11_ringLength 15 = .ok (.getfield 58, 3) := by decide +kernel
theorem dX11_ringLength_18 : decode cX11_ringLength 18 = .ok (.sipush 1000, 3) := by decide +kernel
theorem dX11_ringLength_21 : decode cX11_ringLength 21 = .ok (.iaload, 1) := by decide +kernel
theorem dX11_ringLength_22 : decode cX11_ringLength 22 = .ok (.if_icmp .ne 9, 3) := by decide +kernel
theorem dX11_ringLength_25 : decode cX11_ringLength 25 = .ok (.sipush 1000, 3) := by decide +kernel
theorem dX11_ringLength_28 : decode cX11_ringLength 28 = .ok (.iload_n 1, 1) := by decide +kernel
theorem dX11_ringLength_29 : decode cX11_ringLength 29 = .ok (.isub, 1) := by decide +kernel
theorem dX11_ringLength_30 : decode cX11_ringLength 30 = .ok (.ireturn, 1) := by decide +kernel
theorem dX11_ringLength_31 : decode cX11_ringLength 31 = .ok (.iinc 1 (-1), 3) := by decide +kernel
theorem dX11_ringLength_34 : decode cX11_ringLength 34 = .ok (.goto (-30), 3) := by decide +kernel
theorem dX11_ringLength_37 : decode cX11_ringLength 37 = .ok (.iconst (-1), 1) := by decide +kernel
theorem dX11_ringLength_38 : decode cX11_ringLength 38 = .ok (.ireturn, 1) := by decide +kernel
theorem dX11_ringStart_0 : decode cX11_ringStart 0 = .ok (.iconst 0, 1) := by decide +kernel
theorem dX11_ringStart_1 : decode cX11_ringStart 1 = .ok (.istore_n 2, 1) := by decide +kernel
theorem dX11_ringStart_2 : decode cX11_ringStart 2 = .ok (.iload_n 2, 1) := by decide +kernel
theorem dX11_ringStart_3 : decode cX11_ringStart 3 = .ok (.iload_n 1, 1) := by decide +kernel
theorem dX11_ringStart_4 : decode cX11_ringStart 4 = .ok (.iadd, 1) := by decide +kernel
theorem dX11_ringStart_5 : decode cX11_ringStart 5 = .ok (.sipush 1000, 3) := by decide +kernel
theorem dX11_ringStart_8 : decode cX11_ringStart 8 = .ok (.if_icmp .ge 28, 3) := by decide +kernel
theorem dX11_ringStart_11 : decode cX11_ringStart 11 = .ok (.aload_n 0, 1) := by decide +kernel
theorem dX11_ringStart_12 : decode cX11_ringStart 12 = .ok (.getfield 58, 3) := by decide +kernel
theorem dX11_ringStart_15 : decode cX11_ringStart 15 = .ok (.iload_n 2, 1) := by decide +kernel
theorem dX11_ringStart_16 : decode cX11_ringStart 16 = .ok (.iaload, 1) := by decide +kernel
theorem dX11_ringStart_17 : decode cX11_ringStart 17 = .ok (.aload_n 0, 1) := by decide +kernel
theorem dX11_ringStart_18 : decode cX11_ringStart 18 = .ok (.getfield 58, 3) := by decide +kernel
theorem dX11_ringStart_21 : decode cX11_ringStart 21 = .ok (.iload_n 2, 1) := by decide +kernel
theorem dX11_ringStart_22 : decode cX11_ringStart 22 = .ok (.iload_n 1, 1) := by decide +kernel
theorem dX11_ringStart_23 : decode cX11_ringStart 23 = .ok (.iadd, 1) := by decide +kernel
theorem dX11_ringStart_24 : decode cX11_ringStart 24 = .ok (.iaload, 1) := by decide +kernel
theorem dX11_ringStart_25 : decode cX11_ringStart 25 = .ok (.if_icmp .ne 5, 3) := by decide +kernel
theorem dX11_ringStart_28 : decode cX11_ringStart 28 = .ok (.iload_n 2, 1) := by decide +kernel
theorem dX11_ringStart_29 : decode cX11_ringStart 29 = .ok (.ireturn, 1) := by decide +kernel
theorem dX11_ringStart_30 : decode cX11_ringStart 30 = .ok (.iinc 2 1, 3) := by decide +kernel
theorem dX11_ringStart_33 : decode cX11_ringStart 33 = .ok (.goto (-31), 3) := by decide +kernel
theorem dX11_ringStart_36 : decode cX11_ringStart 36 = .ok (.sipush 1000, 3) := by decide +kernel
theorem dX11_ringStart_39 : decode cX11_ringStart 39 = .ok (.iload_n 1, 1) := by decide +kernel
theorem dX11_ringStart_40 : decode cX11_ringStart 40 = .ok (.isub, 1) := by decide +kernel
theorem dX11_ringStart_41 : decode cX11_ringStart 41 = .ok (.ireturn, 1) := by decide +kernel
theorem dX11_fitsBook_0 : decode cX11_fitsBook 0 = .ok (.aload_n 0, 1) := by decide +kernel
theorem dX11_fitsBook_1 : decode cX11_fitsBook 1 = .ok (.getfield 98, 3) := by decide +kernel
theorem dX11_fitsBook_4 : decode cX11_fitsBook 4 = .ok (.getfield 180, 3) := by decide +kernel
theorem dX11_fitsBook_7 : decode cX11_fitsBook 7 = .ok (.ifCond .le 12, 3) := by decide +kernel
theorem dX11_fitsBook_10 : decode cX11_fitsBook 10 = .ok (.aload_n 1, 1) := by decide +kernel
theorem dX11_fitsBook_11 : decode cX11_fitsBook 11 = .ok (.invokevirtual 256, 3) := by decide +kernel
theorem dX11_fitsBook_14 : decode cX11_fitsBook 14 = .ok (.ifCond .eq 5, 3) := by decide +kernel
theorem dX11_fitsBook_17 : decode cX11_fitsBook 17 = .ok (.iconst 0, 1) := by decide +kernel
theorem dX11_fitsBook_18 : decode cX11_fitsBook 18 = .ok (.ireturn, 1) := by decide +kernel
theorem dX11_fitsBook_19 : decode cX11_fitsBook 19 = .ok (.iconst 0, 1) := by decide +kernel
theorem dX11_fitsBook_20 : decode cX11_fitsBook 20 = .ok (.istore_n 2, 1) := by decide +kernel
theorem dX11_fitsBook_21 : decode cX11_fitsBook 21 = .ok (.iload_n 2, 1) := by decide +kernel
theorem dX11_fitsBook_22 : decode cX11_fitsBook 22 = .ok (.aload_n 0, 1) := by decide +kernel
theorem dX11_fitsBook_23 : decode cX11_fitsBook 23 = .ok (.getfield 98, 3) := by decide +kernel
theorem dX11_fitsBook_26 : decode cX11_fitsBook 26 = .ok (.getfield 180, 3) := by decide +kernel
theorem dX11_fitsBook_29 : decode cX11_fitsBook 29 = .ok (.if_icmp .ge 36, 3) := by decide +kernel
theorem dX11_fitsBook_32 : decode cX11_fitsBook 32 = .ok (.aload_n 1, 1) := by decide +kernel
theorem dX11_fitsBook_33 : decode cX11_fitsBook 33 = .ok (.aload_n 0, 1) := by decide +kernel
theorem dX11_fitsBook_34 : decode cX11_fitsBook 34 = .ok (.getfield 98, 3) := by decide +kernel
theorem dX11_fitsBook_37 : decode cX11_fitsBook 37 = .ok (.getfield 398, 3) := by decide +kernel
theorem dX11_fitsBook_40 : decode cX11_fitsBook 40 = .ok (.iload_n 2, 1) := by decide +kernel
theorem dX11_fitsBook_41 : decode cX11_fitsBook 41 = .ok (.iaload, 1) := by decide +kernel
theorem dX11_fitsBook_42 : decode cX11_fitsBook 42 = .ok (.invokevirtual 262, 3) := by decide +kernel
theorem dX11_fitsBook_45 : decode cX11_fitsBook 45 = .ok (.aload_n 0, 1) := by decide +kernel
theorem dX11_fitsBook_46 : decode cX11_fitsBook 46 = .ok (.getfield 98, 3) := by decide +kernel
theorem dX11_fitsBook_49 : decode cX11_fitsBook 49 = .ok (.getfield 400, 3) := by decide +kernel
theorem dX11_fitsBook_52 : decode cX11_fitsBook 52 = .ok (.iload_n 2, 1) := by decide +kernel
theorem dX11_fitsBook_53 : decode cX11_fitsBook 53 = .ok (.iaload, 1) := by decide +kernel
theorem dX11_fitsBook_54 : decode cX11_fitsBook 54 = .ok (.if_icmp .eq 5, 3) := by decide +kernel
theorem dX11_fitsBook_57 : decode cX11_fitsBook 57 = .ok (.iconst 0, 1) := by decide +kernel
theorem dX11_fitsBook_58 : decode cX11_fitsBook 58 = .ok (.ireturn, 1) := by decide +kernel
theorem dX11_fitsBook_59 : decode cX11_fitsBook 59 = .ok (.iinc 2 1, 3) := by decide +kernel
theorem dX11_fitsBook_62 : decode cX11_fitsBook 62 = .ok (.goto (-41), 3) := by decide +kernel
theorem dX11_fitsBook_65 : decode cX11_fitsBook 65 = .ok (.iconst 1, 1) := by decide +kernel
theorem dX11_fitsBook_66 : decode cX11_fitsBook 66 = .ok (.ireturn, 1) := by decide +kernel
theorem dX11_mostAlike_0 : decode cX11_mostAlike 0 = .ok (.iconst 0, 1) := by decide +kernel
theorem dX11_mostAlike_1 : decode cX11_mostAlike 1 = .ok (.istore_n 3, 1) := by decide +kernel
theorem dX11_mostAlike_2 : decode cX11_mostAlike 2 = .ok (.iconst 0, 1) := by decide +kernel
theorem dX11_mostAlike_3 : decode cX11_mostAlike 3 = .ok (.istore 4, 2) := by decide +kernel
theorem dX11_mostAlike_5 : decode cX11_mostAlike 5 = .ok (.iload 4, 2) := by decide +kernel
theorem dX11_mostAlike_7 : decode cX11_mostAlike 7 = .ok (.aload_n 0, 1) := by decide +kernel
theorem dX11_mostAlike_8 : decode cX11_mostAlike 8 = .ok (.getfield 68, 3) := by decide +kernel
theorem dX11_mostAlike_11 : decode cX11_mostAlike 11 = .ok (.getfield 144, 3) := by decide +kernel
theorem dX11_mostAlike_14 : decode cX11_mostAlike 14 = .ok (.if_icmp .ge 96, 3) := by decide +kernel
theorem dX11_mostAlike_17 : decode cX11_mostAlike 17 = .ok (.iconst 0, 1) := by decide +kernel
theorem dX11_mostAlike_18 : decode cX11_mostAlike 18 = .ok (.istore 5, 2) := by decide +kernel
theorem dX11_mostAlike_20 : decode cX11_mostAlike 20 = .ok (.iconst 0, 1) := by decide +kernel
theorem dX11_mostAlike_21 : decode cX11_mostAlike 21 = .ok (.istore 6, 2) := by decide +kernel
theorem dX11_mostAlike_23 : decode cX11_mostAlike 23 = .ok (.iload 6, 2) := by decide +kernel
theorem dX11_mostAlike_25 : decode cX11_mostAlike 25 = .ok (.aload_n 0, 1) := by decide +kernel
theorem dX11_mostAlike_26 : decode cX11_mostAlike 26 = .ok (.getfield 68, 3) := by decide +kernel
theorem dX11_mostAlike_29 : decode cX11_mostAlike 29 = .ok (.getfield 144, 3) := by decide +kernel
theorem dX11_mostAlike_32 : decode cX11_mostAlike 32 = .ok (.if_icmp .ge 65, 3) := by decide +kernel
theorem dX11_mostAlike_35 : decode cX11_mostAlike 35 = .ok (.iload_n 1, 1) := by decide +kernel
theorem dX11_mostAlike_36 : decode cX11_mostAlike 36 = .ok (.iload 4, 2) := by decide +kernel
theorem dX11_mostAlike_38 : decode cX11_mostAlike 38 = .ok (.ishr, 1) := by decide +kernel
theorem dX11_mostAlike_39 : decode cX11_mostAlike 39 = .ok (.iload_n 1, 1) := by decide +kernel
theorem dX11_mostAlike_40 : decode cX11_mostAlike 40 = .ok (.iload 6, 2) := by decide +kernel
theorem dX11_mostAlike_42 : decode cX11_mostAlike 42 = .ok (.ishr, 1) := by decide +kernel
theorem dX11_mostAlike_43 : decode cX11_mostAlike 43 = .ok (.iand, 1) := by decide +kernel
theorem dX11_mostAlike_44 : decode cX11_mostAlike 44 = .ok (.iconst 1, 1) := by decide +kernel
theorem dX11_mostAlike_45 : decode cX11_mostAlike 45 = .ok (.iand, 1) := by decide +kernel
theorem dX11_mostAlike_46 : decode cX11_mostAlike 46 = .ok (.ifCond .eq 7, 3) := by decide +kernel
theorem dX11_mostAlike_49 : decode cX11_mostAlike 49 = .ok (.iconst 1, 1) := by decide +kernel
theorem dX11_mostAlike_50 : decode cX11_mostAlike 50 = .ok (.goto 4, 3) := by decide +kernel
theorem dX11_mostAlike_53 : decode cX11_mostAlike 53 = .ok (.iconst 0, 1) := by decide +kernel
theorem dX11_mostAlike_54 : decode cX11_mostAlike 54 = .ok (.istore 7, 2) := by decide +kernel
theorem dX11_mostAlike_56 : decode cX11_mostAlike 56 = .ok (.iload 7, 2) := by decide +kernel
theorem dX11_mostAlike_58 : decode cX11_mostAlike 58 = .ok (.ifCond .eq 33, 3) := by decide +kernel
theorem dX11_mostAlike_61 : decode cX11_mostAlike 61 = .ok (.aload_n 0, 1) := by decide +kernel
theorem dX11_mostAlike_62 : decode cX11_mostAlike 62 = .ok (.getfield 33, 3) := by decide +kernel
theorem dX11_mostAlike_65 : decode cX11_mostAlike 65 = .ok (.getfield 218, 3) := by decide +kernel
theorem dX11_mostAlike_68 : decode cX11_mostAlike 68 = .ok (.iload 4, 2) := by decide +kernel
theorem dX11_mostAlike_70 : decode cX11_mostAlike 70 = .ok (.aaload, 1) := by decide +kernel
theorem dX11_mostAlike_71 : decode cX11_mostAlike 71 = .ok (.aload_n 0, 1) := by decide +kernel
theorem dX11_mostAlike_72 : decode cX11_mostAlike 72 = .ok (.getfield 33, 3) := by decide +kernel
theorem dX11_mostAlike_75 : decode cX11_mostAlike 75 = .ok (.getfield 218, 3) := by decide +kernel
theorem dX11_mostAlike_78 : decode cX11_mostAlike 78 = .ok (.iload 6, 2) := by decide +kernel
theorem dX11_mostAlike_80 : decode cX11_mostAlike 80 = .ok (.aaload, 1) := by decide +kernel
theorem dX11_mostAlike_81 : decode cX11_mostAlike 81 = .ok (.iload_n 2, 1) := by decide +kernel
theorem dX11_mostAlike_82 : decode cX11_mostAlike 82 = .ok (.invokestatic 403, 3) := by decide +kernel
theorem dX11_mostAlike_85 : decode cX11_mostAlike 85 = .ok (.ifCond .eq 6, 3) := by decide +kernel
theorem dX11_mostAlike_88 : decode cX11_mostAlike 88 = .ok (.iinc 5 1, 3) := by decide +kernel
theorem dX11_mostAlike_91 : decode cX11_mostAlike 91 = .ok (.iinc 6 1, 3) := by decide +kernel
theorem dX11_mostAlike_94 : decode cX11_mostAlike 94 = .ok (.goto (-71), 3) := by decide +kernel
theorem dX11_mostAlike_97 : decode cX11_mostAlike 97 = .ok (.iload_n 3, 1) := by decide +kernel
theorem dX11_mostAlike_98 : decode cX11_mostAlike 98 = .ok (.iload 5, 2) := by decide +kernel
theorem dX11_mostAlike_100 : decode cX11_mostAlike 100 = .ok (.invokestatic 312, 3) := by decide +kernel
theorem dX11_mostAlike_103 : decode cX11_mostAlike 103 = .ok (.istore_n 3, 1) := by decide +kernel
theorem dX11_mostAlike_104 : decode cX11_mostAlike 104 = .ok (.iinc 4 1, 3) := by decide +kernel
theorem dX11_mostAlike_107 : decode cX11_mostAlike 107 = .ok (.goto (-102), 3) := by decide +kernel
theorem dX11_mostAlike_110 : decode cX11_mostAlike 110 = .ok (.iload_n 3, 1) := by decide +kernel
theorem dX11_mostAlike_111 : decode cX11_mostAlike 111 = .ok (.ireturn, 1) := by decide +kernel
theorem dX11_comesOutAlike_0 : decode cX11_comesOutAlike 0 = .ok (.aload_n 0, 1) := by decide +kernel
theorem dX11_comesOutAlike_1 : decode cX11_comesOutAlike 1 = .ok (.invokevirtual 256, 3) := by decide +kernel
theorem dX11_comesOutAlike_4 : decode cX11_comesOutAlike 4 = .ok (.ifCond .ne 10, 3) := by decide +kernel
theorem dX11_comesOutAlike_7 : decode cX11_comesOutAlike 7 = .ok (.aload_n 1, 1) := by decide +kernel
theorem dX11_comesOutAlike_8 : decode cX11_comesOutAlike 8 = .ok (.invokevirtual 256, 3) := by decide +kernel
theorem dX11_comesOutAlike_11 : decode cX11_comesOutAlike 11 = .ok (.ifCond .eq 23, 3) := by decide +kernel
theorem dX11_comesOutAlike_14 : decode cX11_comesOutAlike 14 = .ok (.aload_n 0, 1) := by decide +kernel
theorem dX11_comesOutAlike_15 : decode cX11_comesOutAlike 15 = .ok (.invokevirtual 256, 3) := by decide +kernel
theorem dX11_comesOutAlike_18 : decode cX11_comesOutAlike 18 = .ok (.ifCond .eq 14, 3) := by decide +kernel
theorem dX11_comesOutAlike_21 : decode cX11_comesOutAlike 21 = .ok (.aload_n 1, 1) := by decide +kernel
theorem dX11_comesOutAlike_22 : decode cX11_comesOutAlike 22 = .ok (.invokevirtual 256, 3) := by decide +kernel
theorem dX11_comesOutAlike_25 : decode cX11_comesOutAlike 25 = .ok (.ifCond .eq 7, 3) := by decide +kernel
theorem dX11_comesOutAlike_28 : decode cX11_comesOutAlike 28 = .ok (.iconst 1, 1) := by decide +kernel
theorem dX11_comesOutAlike_29 : decode cX11_comesOutAlike 29 = .ok (.goto 4, 3) := by decide +kernel
theorem dX11_comesOutAlike_32 : decode cX11_comesOutAlike 32 = .ok (.iconst 0, 1) := by decide +kernel
theorem dX11_comesOutAlike_33 : decode cX11_comesOutAlike 33 = .ok (.ireturn, 1) := by decide +kernel
theorem dX11_comesOutAlike_34 : decode cX11_comesOutAlike 34 = .ok (.aload_n 0, 1) := by decide +kernel
theorem dX11_comesOutAlike_35 : decode cX11_comesOutAlike 35 = .ok (.iload_n 2, 1) := by decide +kernel
theorem dX11_comesOutAlike_36 : decode cX11_comesOutAlike 36 = .ok (.invokevirtual 262, 3) := by decide +kernel
theorem dX11_comesOutAlike_39 : decode cX11_comesOutAlike 39 = .ok (.aload_n 1, 1) := by decide +kernel
theorem dX11_comesOutAlike_40 : decode cX11_comesOutAlike 40 = .ok (.iload_n 2, 1) := by decide +kernel
theorem dX11_comesOutAlike_41 : decode cX11_comesOutAlike 41 = .ok (.invokevirtual 262, 3) := by decide +kernel
theorem dX11_comesOutAlike_44 : decode cX11_comesOutAlike 44 = .ok (.if_icmp .ne 7, 3) := by decide +kernel
theorem dX11_comesOutAlike_47 : decode cX11_comesOutAlike 47 = .ok (.iconst 1, 1) := by decide +kernel
theorem dX11_comesOutAlike_48 : decode cX11_comesOutAlike 48 = .ok (.goto 4, 3) := by decide +kernel
theorem dX11_comesOutAlike_51 : decode cX11_comesOutAlike 51 = .ok (.iconst 0, 1) := by decide +kernel
theorem dX11_comesOutAlike_52 : decode cX11_comesOutAlike 52 = .ok (.ireturn, 1) := by decide +kernel
theorem dX12_init_0 : decode cX12_init 0 = .ok (.aload_n 0, 1) := by decide +kernel
theorem dX12_init_1 : decode cX12_init 1 = .ok (.invokespecial 1, 3) := by decide +kernel
theorem dX12_init_4 : decode cX12_init 4 = .ok (.aload_n 0, 1) := by decide +kernel
theorem dX12_init_5 : decode cX12_init 5 = .ok (.iconst (-1), 1) := by decide +kernel
theorem dX12_init_6 : decode cX12_init 6 = .ok (.putfield 9, 3) := by decide +kernel
theorem dX12_init_9 : decode cX12_init 9 = .ok (.aload_n 0, 1) := by decide +kernel
theorem dX12_init_10 : decode cX12_init 10 = .ok (.sipush 600, 3) := by decide +kernel
theorem dX12_init_13 : decode cX12_init 13 = .ok (.newarray .int, 2) := by decide +kernel
theorem dX12_init_15 : decode cX12_init 15 = .ok (.putfield 13, 3) := by decide +kernel
theorem dX12_init_18 : decode cX12_init 18 = .ok (.aload_n 0, 1) := by decide +kernel
theorem dX12_init_19 : decode cX12_init 19 = .ok (.iconst 5, 1) := by decide +kernel
theorem dX12_init_20 : decode cX12_init 20 = .ok (.newarray .int, 2) := by decide +kernel
theorem dX12_init_22 : decode cX12_init 22 = .ok (.putfield 17, 3) := by decide +kernel
theorem dX12_init_25 : decode cX12_init 25 = .ok (.aload_n 0, 1) := by decide +kernel
theorem dX12_init_26 : decode cX12_init 26 = .ok (.iconst 3, 1) := by decide +kernel
theorem dX12_init_27 : decode cX12_init 27 = .ok (.newarray .int, 2) := by decide +kernel
theorem dX12_init_29 : decode cX12_init 29 = .ok (.putfield 20, 3) := by decide +kernel
theorem dX12_init_32 : decode cX12_init 32 = .ok (.aload_n 0, 1) := by decide +kernel
theorem dX12_init_33 : decode cX12_init 33 = .ok (.iconst 3, 1) := by decide +kernel
theorem dX12_init_34 : decode cX12_init 34 = .ok (.newarray .int, 2) := by decide +kernel
theorem dX12_init_36 : decode cX12_init 36 = .ok (.putfield 23, 3) := by decide +kernel
theorem dX12_init_39 : decode cX12_init 39 = .ok (.aload_n 0, 1) := by decide +kernel
theorem dX12_init_40 : decode cX12_init 40 = .ok (.bipush 8, 2) := by decide +kernel
theorem dX12_init_42 : decode cX12_init 42 = .ok (.iconst 3, 1) := by decide +kernel
theorem dX12_init_43 : decode cX12_init 43 = .ok (.multianewarray 26 2, 4) := by decide +kernel
theorem dX12_init_47 : decode cX12_init 47 = .ok (.putfield 28, 3) := by decide +kernel
theorem dX12_init_50 : decode cX12_init 50 = .ok (.aload_n 0, 1) := by decide +kernel
theorem dX12_init_51 : decode cX12_init 51 = .ok (.bipush 8, 2) := by decide +kernel
theorem dX12_init_53 : decode cX12_init 53 = .ok (.iconst 3, 1) := by decide +kernel
theorem dX12_init_54 : decode cX12_init 54 = .ok (.multianewarray 26 2, 4) := by decide +kernel
theorem dX12_init_58 : decode cX12_init 58 = .ok (.putfield 31, 3) := by decide +kernel
theorem dX12_init_61 : decode cX12_init 61 = .ok (.aload_n 0, 1) := by decide +kernel
theorem dX12_init_62 : decode cX12_init 62 = .ok (.bipush 16, 2) := by decide +kernel
theorem dX12_init_64 : decode cX12_init 64 = .ok (.iconst 2, 1) := by decide +kernel
theorem dX12_init_65 : decode cX12_init 65 = .ok (.multianewarray 26 2, 4) := by decide +kernel
theorem dX12_init_69 : decode cX12_init 69 = .ok (.putfield 34, 3) := by decide +kernel
theorem dX12_init_72 : decode cX12_init 72 = .ok (.aload_n 0, 1) := by decide +kernel
theorem dX12_init_73 : decode cX12_init 73 = .ok (.bipush 16, 2) := by decide +kernel
theorem dX12_init_75 : decode cX12_init 75 = .ok (.iconst 2, 1) := by decide +kernel
theorem dX12_init_76 : decode cX12_init 76 = .ok (.multianewarray 26 2, 4) := by decide +kernel
theorem dX12_init_80 : decode cX12_init 80 = .ok (.putfield 37, 3) := by decide +kernel
theorem dX12_init_83 : decode cX12_init 83 = .ok (.aload_n 0, 1) := by decide +kernel
theorem dX12_init_84 : decode cX12_init 84 = .ok (.sipush 160, 3) := by decide +kernel
theorem dX12_init_87 : decode cX12_init 87 = .ok (.iconst 2, 1) := by decide +kernel
theorem dX12_init_88 : decode cX12_init 88 = .ok (.multianewarray 26 2, 4) := by decide +kernel
theorem dX12_init_92 : decode cX12_init 92 = .ok (.putfield 40, 3) := by decide +kernel
theorem dX12_init_95 : decode cX12_init 95 = .ok (.aload_n 0, 1) := by decide +kernel
theorem dX12_init_96 : decode cX12_init 96 = .ok (.sipush 160, 3) := by decide +kernel
theorem dX12_init_99 : decode cX12_init 99 = .ok (.iconst 2, 1) := by decide +kernel
theorem dX12_init_100 : decode cX12_init 100 = .ok (.multianewarray 26 2, 4) := by decide +kernel
theorem dX12_init_104 : decode cX12_init 104 = .ok (.putfield 43, 3) := by decide +kernel
theorem dX12_init_107 : decode cX12_init 107 = .ok (.aload_n 0, 1) := by decide +kernel
theorem dX12_init_108 : decode cX12_init 108 = .ok (.bipush 6, 2) := by decide +kernel
theorem dX12_init_110 : decode cX12_init 110 = .ok (.iconst 2, 1) := by decide +kernel
theorem dX12_init_111 : decode cX12_init 111 = .ok (.multianewarray 26 2, 4) := by decide +kernel
theorem dX12_init_115 : decode cX12_init 115 = .ok (.putfield 46, 3) := by decide +kernel
theorem dX12_init_118 : decode cX12_init 118 = .ok (.aload_n 0, 1) := by decide +kernel
theorem dX12_init_119 : decode cX12_init 119 = .ok (.bipush 6, 2) := by decide +kernel
theorem dX12_init_121 : decode cX12_init 121 = .ok (.iconst 2, 1) := by decide +kernel
theorem dX12_init_122 : decode cX12_init 122 = .ok (.multianewarray 26 2, 4) := by decide +kernel
theorem dX12_init_126 : decode cX12_init 126 = .ok (.putfield 49, 3) := by decide +kernel
theorem dX12_init_129 : decode cX12_init 129 = .ok (.aload_n 0, 1) := by decide +kernel
theorem dX12_init_130 : decode cX12_init 130 = .ok (.sipush 160, 3) := by decide +kernel
theorem dX12_init_133 : decode cX12_init 133 = .ok (.newarray .int, 2) := by decide +kernel
theorem dX12_init_135 : decode cX12_init 135 = .ok (.putfield 52, 3) := by decide +kernel
theorem dX12_init_138 : decode cX12_init 138 = .ok (.aload_n 0, 1) := by decide +kernel
theorem dX12_init_139 : decode cX12_init 139 = .ok (.bipush 8, 2) := by decide +kernel
theorem dX12_init_141 : decode cX12_init 141 = .ok (.newarray .int, 2) := by decide +kernel
theorem dX12_init_143 : decode cX12_init 143 = .ok (.putfield 55, 3) := by decide +kernel
theorem dX12_init_146 : decode cX12_init 146 = .ok (.aload_n 0, 1) := by decide +kernel
theorem dX12_init_147 : decode cX12_init 147 = .ok (.bipush 12, 2) := by decide +kernel
theorem dX12_init_149 : decode cX12_init 149 = .ok (.newarray .int, 2) := by decide +kernel
theorem dX12_init_151 : decode cX12_init 151 = .ok (.putfield 58, 3) := by decide +kernel
theorem dX12_init_154 : decode cX12_init 154 = .ok (.aload_n 0, 1) := by decide +kernel
theorem dX12_init_155 : decode cX12_init 155 = .ok (.bipush 12, 2) := by decide +kernel
theorem dX12_init_157 : decode cX12_init 157 = .ok (.newarray .int, 2) := by decide +kernel
theorem dX12_init_159 : decode cX12_init 159 = .ok (.putfield 61, 3) := by decide +kernel
theorem dX12_init_162 : decode cX12_init 162 = .ok (.aload_n 0, 1) := by decide +kernel
theorem dX12_init_163 : decode cX12_init 163 = .ok (.bipush 80, 2) := by decide +kernel
theorem dX12_init_165 : decode cX12_init 165 = .ok (.iconst 5, 1) := by decide +kernel
theorem dX12_init_166 : decode cX12_init 166 = .ok (.multianewarray 26 2, 4) := by decide +kernel
theorem dX12_init_170 : decode cX12_init 170 = .ok (.putfield 64, 3) := by decide +kernel
theorem dX12_init_173 : decode cX12_init 173 = .ok (.aload_n 0, 1) := by decide +kernel
theorem dX12_init_174 : decode cX12_init 174 = .ok (.sipush 419, 3) := by decide +kernel
theorem dX12_init_177 : decode cX12_init 177 = .ok (.newarray .int, 2) := by decide +kernel
theorem dX12_init_179 : decode cX12_init 179 = .ok (.putfield 67, 3) := by decide +kernel
theorem dX12_init_182 : decode cX12_init 182 = .ok (.aload_n 0, 1) := by decide +kernel
theorem dX12_init_183 : decode cX12_init 183 = .ok (.sipush 419, 3) := by decide +kernel
theorem dX12_init_186 : decode cX12_init 186 = .ok (.newarray .int, 2) := by decide +kernel
theorem dX12_init_188 : decode cX12_init 188 = .ok (.putfield 70, 3) := by decide +kernel
theorem dX12_init_191 : decode cX12_init 191 = .ok (.aload_n 0, 1) := by decide +kernel
theorem dX12_init_192 : decode cX12_init 192 = .ok (.bipush 16, 2) := by decide +kernel
theorem dX12_init_194 : decode cX12_init 194 = .ok (.sipush 419, 3) := by decide +kernel
theorem dX12_init_197 : decode cX12_init 197 = .ok (.multianewarray 26 2, 4) := by decide +kernel
theorem dX12_init_201 : decode cX12_init 201 = .ok (.putfield 73, 3) := by decide +kernel
theorem dX12_init_204 : decode cX12_init 204 = .ok (.aload_n 0, 1) := by decide +kernel
theorem dX12_init_205 : decode cX12_init 205 = .ok (.iconst 3, 1) := by decide +kernel
theorem dX12_init_206 : decode cX12_init 206 = .ok (.sipush 7124, 3) := by decide +kernel
theorem dX12_init_209 : decode cX12_init 209 = .ok (.multianewarray 26 2, 4) := by decide +kernel
theorem dX12_init_213 : decode cX12_init 213 = .ok (.putfield 76, 3) := by decide +kernel
theorem dX12_init_216 : decode cX12_init 216 = .ok (.aload_n 0, 1) := by decide +kernel
theorem dX12_init_217 : decode cX12_init 217 = .ok (.bipush 8, 2) := by decide +kernel
theorem dX12_init_219 : decode cX12_init 219 = .ok (.newarray .int, 2) := by decide +kernel
theorem dX12_init_221 : decode cX12_init 221 = .ok (.putfield 79, 3) := by decide +kernel
theorem dX12_init_224 : decode cX12_init 224 = .ok (.aload_n 0, 1) := by decide +kernel
theorem dX12_init_225 : decode cX12_init 225 = .ok (.bipush 8, 2) := by decide +kernel
theorem dX12_init_227 : decode cX12_init 227 = .ok (.newarray .int, 2) := by decide +kernel
theorem dX12_init_229 : decode cX12_init 229 = .ok (.putfield 82, 3) := by decide +kernel
theorem dX12_init_232 : decode cX12_init 232 = .ok (.aload_n 0, 1) := by decide +kernel
theorem dX12_init_233 : decode cX12_init 233 = .ok (.sipush 1001, 3) := by decide +kernel
theorem dX12_init_236 : decode cX12_init 236 = .ok (.newarray .int, 2) := by decide +kernel
theorem dX12_init_238 : decode cX12_init 238 = .ok (.putfield 85, 3) := by decide +kernel
theorem dX12_init_241 : decode cX12_init 241 = .ok (.aload_n 0, 1) := by decide +kernel
theorem dX12_init_242 : decode cX12_init 242 = .ok (.invokevirtual 88, 3) := by decide +kernel
theorem dX12_init_245 : decode cX12_init 245 = .ok (.aload_n 0, 1) := by decide +kernel
theorem dX12_init_246 : decode cX12_init 246 = .ok (.invokevirtual 91, 3) := by decide +kernel
theorem dX12_init_249 : decode cX12_init 249 = .ok (.return_, 1) := by decide +kernel
theorem dX12_tellsNothing_0 : decode cX12_tellsNothing 0 = .ok (.aload_n 0, 1) := by decide +kernel
theorem dX12_tellsNothing_1 : decode cX12_tellsNothing 1 = .ok (.getfield 20, 3) := by decide +kernel
theorem dX12_tellsNothing_4 : decode cX12_tellsNothing 4 = .ok (.iconst 0, 1) := by decide +kernel
theorem dX12_tellsNothing_5 : decode cX12_tellsNothing 5 = .ok (.iconst 0, 1) := by decide +kernel
theorem dX12_tellsNothing_6 : decode cX12_tellsNothing 6 = .ok (.iastore, 1) := by decide +kernel
theorem dX12_tellsNothing_7 : decode cX12_tellsNothing 7 = .ok (.aload_n 0, 1) := by decide +kernel
theorem dX12_tellsNothing_8 : decode cX12_tellsNothing 8 = .ok (.getfield 20, 3) := by decide +kernel
theorem dX12_tellsNothing_11 : decode cX12_tellsNothing 11 = .ok (.iconst 1, 1) := by decide +kernel
theorem dX12_tellsNothing_12 : decode cX12_tellsNothing 12 = .ok (.iconst 0, 1) := by decide +kernel
theorem dX12_tellsNothing_13 : decode cX12_tellsNothing 13 = .ok (.iastore, 1) := by decide +kernel
theorem dX12_tellsNothing_14 : decode cX12_tellsNothing 14 = .ok (.aload_n 0, 1) := by decide +kernel
theorem dX12_tellsNothing_15 : decode cX12_tellsNothing 15 = .ok (.getfield 20, 3) := by decide +kernel
theorem dX12_tellsNothing_18 : decode cX12_tellsNothing 18 = .ok (.iconst 2, 1) := by decide +kernel
theorem dX12_tellsNothing_19 : decode cX12_tellsNothing 19 = .ok (.bipush 8, 2) := by decide +kernel
theorem dX12_tellsNothing_21 : decode cX12_tellsNothing 21 = .ok (.iastore, 1) := by decide +kernel
theorem dX12_tellsNothing_22 : decode cX12_tellsNothing 22 = .ok (.return_, 1) := by decide +kernel
theorem dX12_thrown_0 : decode cX12_thrown 0 = .ok (.aload_n 0, 1) := by decide +kernel
theorem dX12_thrown_1 : decode cX12_thrown 1 = .ok (.getfield 94, 3) := by decide +kernel
theorem dX12_thrown_4 : decode cX12_thrown 4 = .ok (.ireturn, 1) := by decide +kernel
theorem dX12_bad_0 : decode cX12_bad 0 = .ok (.iload_n 1, 1) := by decide +kernel
theorem dX12_bad_1 : decode cX12_bad 1 = .ok (.ifCond .eq 25, 3) := by decide +kernel
theorem dX12_bad_4 : decode cX12_bad 4 = .ok (.aload_n 0, 1) := by decide +kernel
theorem dX12_bad_5 : decode cX12_bad 5 = .ok (.getfield 94, 3) := by decide +kernel
theorem dX12_bad_8 : decode cX12_bad 8 = .ok (.ifCond .ne 18, 3) := by decide +kernel
theorem dX12_bad_11 : decode cX12_bad 11 = .ok (.aload_n 0, 1) := by decide +kernel
theorem dX12_bad_12 : decode cX12_bad 12 = .ok (.iload_n 2, 1) := by decide +kernel
theorem dX12_bad_13 : decode cX12_bad 13 = .ok (.putfield 94, 3) := by decide +kernel
theorem dX12_bad_16 : decode cX12_bad 16 = .ok (.aload_n 0, 1) := by decide +kernel
theorem dX12_bad_17 : decode cX12_bad 17 = .ok (.getfield 17, 3) := by decide +kernel
theorem dX12_bad_20 : decode cX12_bad 20 = .ok (.iload_n 3, 1) := by decide +kernel
theorem dX12_bad_21 : decode cX12_bad 21 = .ok (.dup2, 1) := by decide +kernel
theorem dX12_bad_22 : decode cX12_bad 22 = .ok (.iaload, 1) := by decide +kernel
theorem dX12_bad_23 : decode cX12_bad 23 = .ok (.iconst 1, 1) := by decide +kernel
theorem dX12_bad_24 : decode cX12_bad 24 = .ok (.iadd, 1) := by decide +kernel
theorem dX12_bad_25 : decode cX12_bad 25 = .ok (.iastore, 1) := by decide +kernel
theorem dX12_bad_26 : decode cX12_bad 26 = .ok (.aload_n 0, 1) := by decide +kernel
theorem dX12_bad_27 : decode cX12_bad 27 = .ok (.getfield 94, 3) := by decide +kernel
theorem dX12_bad_30 : decode cX12_bad 30 = .ok (.ifCond .eq 7, 3) := by decide +kernel
theorem dX12_bad_33 : decode cX12_bad 33 = .ok (.iconst 1, 1) := by decide +kernel
theorem dX12_bad_34 : decode cX12_bad 34 = .ok (.goto 4, 3) := by decide +kernel
theorem dX12_bad_37 : decode cX12_bad 37 = .ok (.iconst 0, 1) := by decide +kernel
theorem dX12_bad_38 : decode cX12_bad 38 = .ok (.ireturn, 1) := by decide +kernel
theorem dX12_in_0 : decode cX12_in 0 = .ok (.iload_n 0, 1) := by decide +kernel
theorem dX12_in_1 : decode cX12_in 1 = .ok (.iload_n 1, 1) := by decide +kernel
theorem dX12_in_2 : decode cX12_in 2 = .ok (.if_icmp .lt 12, 3) := by decide +kernel
theorem dX12_in_5 : decode cX12_in 5 = .ok (.iload_n 0, 1) := by decide +kernel
theorem dX12_in_6 : decode cX12_in 6 = .ok (.iload_n 2, 1) := by decide +kernel
theorem dX12_in_7 : decode cX12_in 7 = .ok (.if_icmp .gt 7, 3) := by decide +kernel
theorem dX12_in_10 : decode cX12_in 10 = .ok (.iconst 1, 1) := by decide +kernel
theorem dX12_in_11 : decode cX12_in 11 = .ok (.goto 4, 3) := by decide +kernel
theorem dX12_in_14 : decode cX12_in 14 = .ok (.iconst 0, 1) := by decide +kernel
theorem dX12_in_15 : decode cX12_in 15 = .ok (.ireturn, 1) := by decide +kernel
theorem dX12_less_0 : decode cX12_less 0 = .ok (.iload_n 0, 1) := by decide +kernel
theorem dX12_less_1 : decode cX12_less 1 = .ok (.iload_n 1, 1) := by decide +kernel
theorem dX12_less_2 : decode cX12_less 2 = .ok (.if_icmp .ge 7, 3) := by decide +kernel
theorem dX12_less_5 : decode cX12_less 5 = .ok (.iload_n 0, 1) := by decide +kernel
theorem dX12_less_6 : decode cX12_less 6 = .ok (.goto 4, 3) := by decide +kernel
theorem dX12_less_9 : decode cX12_less 9 = .ok (.iload_n 1, 1) := by decide +kernel
theorem dX12_less_10 : decode cX12_less 10 = .ok (.ireturn, 1) := by decide +kernel
theorem dX12_more_0 : decode cX12_more 0 = .ok (.iload_n 0, 1) := by decide +kernel
theorem dX12_more_1 : decode cX12_more 1 = .ok (.iload_n 1, 1) := by decide +kernel
theorem dX12_more_2 : decode cX12_more 2 = .ok (.if_icmp .le 7, 3) := by decide +kernel
theorem dX12_more_5 : decode cX12_more 5 = .ok (.iload_n 0, 1) := by decide +kernel
theorem dX12_more_6 : decode cX12_more 6 = .ok (.goto 4, 3) := by decide +kernel
theorem dX12_more_9 : decode cX12_more 9 = .ok (.iload_n 1, 1) := by decide +kernel
theorem dX12_more_10 : decode cX12_more 10 = .ok (.ireturn, 1) := by decide +kernel
theorem dX12_has_0 : decode cX12_has 0 = .ok (.iload_n 0, 1) := by decide +kernel
theorem dX12_has_1 : decode cX12_has 1 = .ok (.iload_n 1, 1) := by decide +kernel
theorem dX12_has_2 : decode cX12_has 2 = .ok (.ishr, 1) := by decide +kernel
theorem dX12_has_3 : decode cX12_has 3 = .ok (.iconst 1, 1) := by decide +kernel
theorem dX12_has_4 : decode cX12_has 4 = .ok (.iand, 1) := by decide +kernel
theorem dX12_has_5 : decode cX12_has 5 = .ok (.iconst 1, 1) := by decide +kernel
theorem dX12_has_6 : decode cX12_has 6 = .ok (.if_icmp .ne 7, 3) := by decide +kernel
theorem dX12_has_9 : decode cX12_has 9 = .ok (.iconst 1, 1) := by decide +kernel
theorem dX12_has_10 : decode cX12_has 10 = .ok (.goto 4, 3) := by decide +kernel
theorem dX12_has_13 : decode cX12_has 13 = .ok (.iconst 0, 1) := by decide +kernel
theorem dX12_has_14 : decode cX12_has 14 = .ok (.ireturn, 1) := by decide +kernel
theorem dX12_feed_0 : decode cX12_feed 0 = .ok (.aload_n 0, 1) := by decide +kernel
theorem dX12_feed_1 : decode cX12_feed 1 = .ok (.iconst 0, 1) := by decide +kernel
theorem dX12_feed_2 : decode cX12_feed 2 = .ok (.putfield 94, 3) := by decide +kernel
theorem dX12_feed_5 : decode cX12_feed 5 = .ok (.aload_n 0, 1) := by decide +kernel
theorem dX12_feed_6 : decode cX12_feed 6 = .ok (.getfield 97, 3) := by decide +kernel
theorem dX12_feed_9 : decode cX12_feed 9 = .ok (.bipush 20, 2) := by decide +kernel
theorem dX12_feed_11 : decode cX12_feed 11 = .ok (.iadd, 1) := by decide +kernel
theorem dX12_feed_12 : decode cX12_feed 12 = .ok (.sipush 600, 3) := by decide +kernel
theorem dX12_feed_15 : decode cX12_feed 15 = .ok (.if_icmp .le 5, 3) := by decide +kernel
theorem dX12_feed_18 : decode cX12_feed 18 = .ok (.iconst (-1), 1) := by decide +kernel
theorem dX12_feed_19 : decode cX12_feed 19 = .ok (.ireturn, 1) := by decide +kernel
theorem dX12_feed_20 : decode cX12_feed 20 = .ok (.iconst 0, 1) := by decide +kernel
theorem dX12_feed_21 : decode cX12_feed 21 = .ok (.istore 6, 2) := by decide +kernel
theorem dX12_feed_23 : decode cX12_feed 23 = .ok (.iload 6, 2) := by decide +kernel
theorem dX12_feed_25 : decode cX12_feed 25 = .ok (.bipush 20, 2) := by decide +kernel
theorem dX12_feed_27 : decode cX12_feed 27 = .ok (.if_icmp .ge 93, 3) := by decide +kernel
theorem dX12_feed_30 : decode cX12_feed 30 = .ok (.iload 6, 2) := by decide +kernel
theorem dX12_feed_32 : decode cX12_feed 32 = .ok (.iconst 4, 1) := by decide +kernel
theorem dX12_feed_33 : decode cX12_feed 33 = .ok (.if_icmp .ge 7, 3) := by decide +kernel
theorem dX12_feed_36 : decode cX12_feed 36 = .ok (.iload_n 1, 1) := by decide +kernel
theorem dX12_feed_37 : decode cX12_feed 37 = .ok (.goto 39, 3) := by decide +kernel
theorem dX12_feed_40 : decode cX12_feed 40 = .ok (.iload 6, 2) := by decide +kernel
theorem dX12_feed_42 : decode cX12_feed 42 = .ok (.bipush 8, 2) := by decide +kernel
theorem dX12_feed_44 : decode cX12_feed 44 = .ok (.if_icmp .ge 7, 3) := by decide +kernel
theorem dX12_feed_47 : decode cX12_feed 47 = .ok (.iload_n 2, 1) := by decide +kernel
theorem dX12_feed_48 : decode cX12_feed 48 = .ok (.goto 28, 3) := by decide +kernel
theorem dX12_feed_51 : decode cX12_feed 51 = .ok (.iload 6, 2) := by decide +kernel
theorem dX12_feed_53 : decode cX12_feed 53 = .ok (.bipush 12, 2) := by decide +kernel
theorem dX12_feed_55 : decode cX12_feed 55 = .ok (.if_icmp .ge 7, 3) := by decide +kernel
theorem dX12_feed_58 : decode cX12_feed 58 = .ok (.iload_n 3, 1) := by decide +kernel
theorem dX12_feed_59 : decode cX12_feed 59 = .ok (.goto 17, 3) := by decide +kernel
theorem dX12_feed_62 : decode cX12_feed 62 = .ok (.iload 6, 2) := by decide +kernel
theorem dX12_feed_64 : decode cX12_feed 64 = .ok (.bipush 16, 2) := by decide +kernel
theorem dX12_feed_66 : decode cX12_feed 66 = .ok (.if_icmp .ge 8, 3) := by decide +kernel
theorem dX12_feed_69 : decode cX12_feed 69 = .ok (.iload 4, 2) := by decide +kernel
theorem dX12_feed_71 : decode cX12_feed 71 = .ok (.goto 5, 3) := by decide +kernel
theorem dX12_feed_74 : decode cX12_feed 74 = .ok (.iload 5, 2) := by decide +kernel
theorem dX12_feed_76 : decode cX12_feed 76 = .ok (.istore 7, 2) := by decide +kernel
theorem dX12_feed_78 : decode cX12_feed 78 = .ok (.aload_n 0, 1) := by decide +kernel
theorem dX12_feed_79 : decode cX12_feed 79 = .ok (.getfield 13, 3) := by decide +kernel
theorem dX12_feed_82 : decode cX12_feed 82 = .ok (.aload_n 0, 1) := by decide +kernel
theorem dX12_feed_83 : decode cX12_feed 83 = .ok (.getfield 97, 3) := by decide +kernel
theorem dX12_feed_86 : decode cX12_feed 86 = .ok (.iload 7, 2) := by decide +kernel
theorem dX12_feed_88 : decode cX12_feed 88 = .ok (.bipush 24, 2) := by decide +kernel
theorem dX12_feed_90 : decode cX12_feed 90 = .ok (.bipush 8, 2) := by decide +kernel
theorem dX12_feed_92 : decode cX12_feed 92 = .ok (.iload 6, 2) := by decide +kernel
theorem dX12_feed_94 : decode cX12_feed 94 = .ok (.iconst 4, 1) := by decide +kernel
theorem dX12_feed_95 : decode cX12_feed 95 = .ok (.irem, 1) := by decide +kernel
theorem dX12_feed_96 : decode cX12_feed 96 = .ok (.imul, 1) := by decide +kernel
theorem dX12_feed_97 : decode cX12_feed 97 = .ok (.isub, 1) := by decide +kernel
theorem dX12_feed_98 : decode cX12_feed 98 = .ok (.ishr, 1) := by decide +kernel
theorem dX12_feed_99 : decode cX12_feed 99 = .ok (.sipush 255, 3) := by decide +kernel
theorem dX12_feed_102 : decode cX12_feed 102 = .ok (.iand, 1) := by decide +kernel
theorem dX12_feed_103 : decode cX12_feed 103 = .ok (.iastore, 1) := by decide +kernel
theorem dX12_feed_104 : decode cX12_feed 104 = .ok (.aload_n 0, 1) := by decide +kernel
theorem dX12_feed_105 : decode cX12_feed 105 = .ok (.dup, 1) := by decide +kernel
theorem dX12_feed_106 : decode cX12_feed 106 = .ok (.getfield 97, 3) := by decide +kernel
theorem dX12_feed_109 : decode cX12_feed 109 = .ok (.iconst 1, 1) := by decide +kernel
theorem dX12_feed_110 : decode cX12_feed 110 = .ok (.iadd, 1) := by decide +kernel
theorem dX12_feed_111 : decode cX12_feed 111 = .ok (.putfield 97, 3) := by decide +kernel
theorem dX12_feed_114 : decode cX12_feed 114 = .ok (.iinc 6 1, 3) := by decide +kernel
theorem dX12_feed_117 : decode cX12_feed 117 = .ok (.goto (-94), 3) := by decide +kernel
theorem dX12_feed_120 : decode cX12_feed 120 = .ok (.aload_n 0, 1) := by decide +kernel
theorem dX12_feed_121 : decode cX12_feed 121 = .ok (.getfield 97, 3) := by decide +kernel
theorem dX12_feed_124 : decode cX12_feed 124 = .ok (.ireturn, 1) := by decide +kernel
theorem dX12_byteAt_0 : decode cX12_byteAt 0 = .ok (.iload_n 1, 1) := by decide +kernel
theorem dX12_byteAt_1 : decode cX12_byteAt 1 = .ok (.aload_n 0, 1) := by decide +kernel
theorem dX12_byteAt_2 : decode cX12_byteAt 2 = .ok (.getfield 100, 3) := by decide +kernel
theorem dX12_byteAt_5 : decode cX12_byteAt 5 = .ok (.if_icmp .lt 7, 3) := by decide +kernel
theorem dX12_byteAt_8 : decode cX12_byteAt 8 = .ok (.iconst (-1), 1) := by decide +kernel
theorem dX12_byteAt_9 : decode cX12_byteAt 9 = .ok (.goto 9, 3) := by decide +kernel
theorem dX12_byteAt_12 : decode cX12_byteAt 12 = .ok (.aload_n 0, 1) := by decide +kernel
theorem dX12_byteAt_13 : decode cX12_byteAt 13 = .ok (.getfield 13, 3) := by decide +kernel
theorem dX12_byteAt_16 : decode cX12_byteAt 16 = .ok (.iload_n 1, 1) := by decide +kernel
theorem dX12_byteAt_17 : decode cX12_byteAt 17 = .ok (.iaload, 1) := by decide +kernel
theorem dX12_byteAt_18 : decode cX12_byteAt 18 = .ok (.ireturn, 1) := by decide +kernel
theorem dX12_blanks_0 : decode cX12_blanks 0 = .ok (.aload_n 0, 1) := by decide +kernel
theorem dX12_blanks_1 : decode cX12_blanks 1 = .ok (.aload_n 0, 1) := by decide +kernel
theorem dX12_blanks_2 : decode cX12_blanks 2 = .ok (.getfield 103, 3) := by decide +kernel
theorem dX12_blanks_5 : decode cX12_blanks 5 = .ok (.invokevirtual 106, 3) := by decide +kernel
theorem dX12_blanks_8 : decode cX12_blanks 8 = .ok (.bipush 32, 2) := by decide +kernel
theorem dX12_blanks_10 : decode cX12_blanks 10 = .ok (.if_icmp .ne 16, 3) := by decide +kernel
theorem dX12_blanks_13 : decode cX12_blanks 13 = .ok (.aload_n 0, 1) := by decide +kernel
theorem dX12_blanks_14 : decode cX12_blanks 14 = .ok (.dup, 1) := by decide +kernel
theorem dX12_blanks_15 : decode cX12_blanks 15 = .ok (.getfield 103, 3) := by decide +kernel
theorem dX12_blanks_18 : decode cX12_blanks 18 = .ok (.iconst 1, 1) := by decide +kernel
theorem dX12_blanks_19 : decode cX12_blanks 19 = .ok (.iadd, 1) := by decide +kernel
theorem dX12_blanks_20 : decode cX12_blanks 20 = .ok (.putfield 103, 3) := by decide +kernel
theorem dX12_blanks_23 : decode cX12_blanks 23 = .ok (.goto (-23), 3) := by decide +kernel
theorem dX12_blanks_26 : decode cX12_blanks 26 = .ok (.return_, 1) := by decide +kernel
theorem dX12_wrong_0 : decode cX12_wrong 0 = .ok (.aload_n 0, 1) := by decide +kernel
theorem dX12_wrong_1 : decode cX12_wrong 1 = .ok (.getfield 110, 3) := by decide +kernel
theorem dX12_wrong_4 : decode cX12_wrong 4 = .ok (.ifCond .ne 13, 3) := by decide +kernel
theorem dX12_wrong_7 : decode cX12_wrong 7 = .ok (.aload_n 0, 1) := by decide +kernel
theorem dX12_wrong_8 : decode cX12_wrong 8 = .ok (.iload_n 1, 1) := by decide +kernel
theorem dX12_wrong_9 : decode cX12_wrong 9 = .ok (.putfield 110, 3) := by decide +kernel
theorem dX12_wrong_12 : decode cX12_wrong 12 = .ok (.aload_n 0, 1) := by decide +kernel
theorem dX12_wrong_13 : decode cX12_wrong 13 = .ok (.iload_n 2, 1) := by decide +kernel
theorem dX12_wrong_14 : decode cX12_wrong 14 = .ok (.putfield 113, 3) := by decide +kernel
theorem dX12_wrong_17 : decode cX12_wrong 17 = .ok (.return_, 1) := by decide +kernel
theorem dX12_isDigit_0 : decode cX12_isDigit 0 = .ok (.iload_n 0, 1) := by decide +kernel
theorem dX12_isDigit_1 : decode cX12_isDigit 1 = .ok (.bipush 48, 2) := by decide +kernel
theorem dX12_isDigit_3 : decode cX12_isDigit 3 = .ok (.if_icmp .lt 13, 3) := by decide +kernel
theorem dX12_isDigit_6 : decode cX12_isDigit 6 = .ok (.iload_n 0, 1) := by decide +kernel
theorem dX12_isDigit_7 : decode cX12_isDigit 7 = .ok (.bipush 57, 2) := by decide +kernel
theorem dX12_isDigit_9 : decode cX12_isDigit 9 = .ok (.if_icmp .gt 7, 3) := by decide +kernel
theorem dX12_isDigit_12 : decode cX12_isDigit 12 = .ok (.iconst 1, 1) := by decide +kernel
theorem dX12_isDigit_13 : decode cX12_isDigit 13 = .ok (.goto 4, 3) := by decide +kernel
theorem dX12_isDigit_16 : decode cX12_isDigit 16 = .ok (.iconst 0, 1) := by decide +kernel
theorem dX12_isDigit_17 : decode cX12_isDigit 17 = .ok (.ireturn, 1) := by decide +kernel
theorem dX12_isSmall_0 : decode cX12_isSmall 0 = .ok (.iload_n 0, 1) := by decide +kernel
theorem dX12_isSmall_1 : decode cX12_isSmall 1 = .ok (.bipush 97, 2) := by decide +kernel
theorem dX12_isSmall_3 : decode cX12_isSmall 3 = .ok (.if_icmp .lt 13, 3) := by decide +kernel
theorem dX12_isSmall_6 : decode cX12_isSmall 6 = .ok (.iload_n 0, 1) := by decide +kernel
theorem dX12_isSmall_7 : decode cX12_isSmall 7 = .ok (.bipush 122, 2) := by decide +kernel
theorem dX12_isSmall_9 : decode cX12_isSmall 9 = .ok (.if_icmp .gt 7, 3) := by decide +kernel
theorem dX12_isSmall_12 : decode cX12_isSmall 12 = .ok (.iconst 1, 1) := by decide +kernel
theorem dX12_isSmall_13 : decode cX12_isSmall 13 = .ok (.goto 4, 3) := by decide +kernel
theorem dX12_isSmall_16 : decode cX12_isSmall 16 = .ok (.iconst 0, 1) := by decide +kernel
theorem dX12_isSmall_17 : decode cX12_isSmall 17 = .ok (.ireturn, 1) := by decide +kernel
theorem dX12_number_0 : decode cX12_number 0 = .ok (.aload_n 0, 1) := by decide +kernel
theorem dX12_number_1 : decode cX12_number 1 = .ok (.getfield 110, 3) := by decide +kernel
theorem dX12_number_4 : decode cX12_number 4 = .ok (.ifCond .eq 5, 3) := by decide +kernel
theorem dX12_number_7 : decode cX12_number 7 = .ok (.iconst 0, 1) := by decide +kernel
theorem dX12_number_8 : decode cX12_number 8 = .ok (.ireturn, 1) := by decide +kernel
theorem dX12_number_9 : decode cX12_number 9 = .ok (.aload_n 0, 1) := by decide +kernel
theorem dX12_number_10 : decode cX12_number 10 = .ok (.invokevirtual 116, 3) := by decide +kernel
theorem dX12_number_13 : decode cX12_number 13 = .ok (.aload_n 0, 1) := by decide +kernel
theorem dX12_number_14 : decode cX12_number 14 = .ok (.getfield 103, 3) := by decide +kernel
theorem dX12_number_17 : decode cX12_number 17 = .ok (.istore_n 3, 1) := by decide +kernel
theorem dX12_number_18 : decode cX12_number 18 = .ok (.iconst 0, 1) := by decide +kernel
theorem dX12_number_19 : decode cX12_number 19 = .ok (.istore 4, 2) := by decide +kernel
theorem dX12_number_21 : decode cX12_number 21 = .ok (.aload_n 0, 1) := by decide +kernel
theorem dX12_number_22 : decode cX12_number 22 = .ok (.aload_n 0, 1) := by decide +kernel
theorem dX12_number_23 : decode cX12_number 23 = .ok (.getfield 103, 3) := by decide +kernel
theorem dX12_number_26 : decode cX12_number 26 = .ok (.invokevirtual 106, 3) := by decide +kernel
theorem dX12_number_29 : decode cX12_number 29 = .ok (.invokestatic 119, 3) := by decide +kernel
theorem dX12_number_32 : decode cX12_number 32 = .ok (.ifCond .ne 12, 3) := by decide +kernel
theorem dX12_number_35 : decode cX12_number 35 = .ok (.aload_n 0, 1) := by decide +kernel
theorem dX12_number_36 : decode cX12_number 36 = .ok (.iconst 1, 1) := by decide +kernel
theorem dX12_number_37 : decode cX12_number 37 = .ok (.aload_n 0, 1) := by decide +kernel
theorem dX12_number_38 : decode cX12_number 38 = .ok (.getfield 103, 3) := by decide +kernel
theorem dX12_number_41 : decode cX12_number 41 = .ok (.invokevirtual 123, 3) := by decide +kernel
theorem dX12_number_44 : decode cX12_number 44 = .ok (.aload_n 0, 1) := by decide +kernel
theorem dX12_number_45 : decode cX12_number 45 = .ok (.aload_n 0, 1) := by decide +kernel
theorem dX12_number_46 : decode cX12_number 46 = .ok (.getfield 103, 3) := by decide +kernel
theorem dX12_number_49 : decode cX12_number 49 = .ok (.invokevirtual 106, 3) := by decide +kernel
theorem dX12_number_52 : decode cX12_number 52 = .ok (.invokestatic 119, 3) := by decide +kernel
theorem dX12_number_55 : decode cX12_number 55 = .ok (.ifCond .eq 51, 3) := by decide +kernel
theorem dX12_number_58 : decode cX12_number 58 = .ok (.bipush 10, 2) := by decide +kernel
theorem dX12_number_60 : decode cX12_number 60 = .ok (.iload 4, 2) := by decide +kernel
theorem dX12_number_62 : decode cX12_number 62 = .ok (.imul, 1) := by decide +kernel
theorem dX12_number_63 : decode cX12_number 63 = .ok (.aload_n 0, 1) := by decide +kernel
theorem dX12_number_64 : decode cX12_number 64 = .ok (.aload_n 0, 1) := by decide +kernel
theorem dX12_number_65 : decode cX12_number 65 = .ok (.getfield 103, 3) := by decide +kernel
theorem dX12_number_68 : decode cX12_number 68 = .ok (.invokevirtual 106, 3) := by decide +kernel
theorem dX12_number_71 : decode cX12_number 71 = .ok (.iadd, 1) := by decide +kernel
theorem dX12_number_72 : decode cX12_number 72 = .ok (.bipush 48, 2) := by decide +kernel
theorem dX12_number_74 : decode cX12_number 74 = .ok (.isub, 1) := by decide +kernel
theorem dX12_number_75 : decode cX12_number 75 = .ok (.istore 4, 2) := by decide +kernel
theorem dX12_number_77 : decode cX12_number 77 = .ok (.iload 4, 2) := by decide +kernel
theorem dX12_number_79 : decode cX12_number 79 = .ok (.ldc 127, 2) := by decide +kernel
theorem dX12_number_81 : decode cX12_number 81 = .ok (.if_icmp .le 8, 3) := by decide +kernel
theorem dX12_number_84 : decode cX12_number 84 = .ok (.ldc 127, 2) := by decide +kernel
theorem dX12_number_86 : decode cX12_number 86 = .ok (.goto 5, 3) := by decide +kernel
theorem dX12_number_89 : decode cX12_number 89 = .ok (.iload 4, 2) := by decide +kernel
theorem dX12_number_91 : decode cX12_number 91 = .ok (.istore 4, 2) := by decide +kernel
theorem dX12_number_93 : decode cX12_number 93 = .ok (.aload_n 0, 1) := by decide +kernel
theorem dX12_number_94 : decode cX12_number 94 = .ok (.dup, 1) := by decide +kernel
theorem dX12_number_95 : decode cX12_number 95 = .ok (.getfield 103, 3) := by decide +kernel
theorem dX12_number_98 : decode cX12_number 98 = .ok (.iconst 1, 1) := by decide +kernel
theorem dX12_number_99 : decode cX12_number 99 = .ok (.iadd, 1) := by decide +kernel
theorem dX12_number_100 : decode cX12_number 100 = .ok (.putfield 103, 3) := by decide +kernel
theorem dX12_number_103 : decode cX12_number 103 = .ok (.goto (-59), 3) := by decide +kernel
theorem dX12_number_106 : decode cX12_number 106 = .ok (.iload 4, 2) := by decide +kernel
theorem dX12_number_108 : decode cX12_number 108 = .ok (.iload_n 1, 1) := by decide +kernel
theorem dX12_number_109 : decode cX12_number 109 = .ok (.iload_n 2, 1) := by decide +kernel
theorem dX12_number_110 : decode cX12_number 110 = .ok (.invokestatic 128, 3) := by decide +kernel
theorem dX12_number_113 : decode cX12_number 113 = .ok (.ifCond .ne 9, 3) := by decide +kernel
theorem dX12_number_116 : decode cX12_number 116 = .ok (.aload_n 0, 1) := by decide +kernel
theorem dX12_number_117 : decode cX12_number 117 = .ok (.iconst 2, 1) := by decide +kernel
theorem dX12_number_118 : decode cX12_number 118 = .ok (.iload_n 3, 1) := by decide +kernel
theorem dX12_number_119 : decode cX12_number 119 = .ok (.invokevirtual 123, 3) := by decide +kernel
theorem dX12_number_122 : decode cX12_number 122 = .ok (.aload_n 0, 1) := by decide +kernel
theorem dX12_number_123 : decode cX12_number 123 = .ok (.getfield 110, 3) := by decide +kernel
theorem dX12_number_126 : decode cX12_number 126 = .ok (.ifCond .ne 8, 3) := by decide +kernel
theorem dX12_number_129 : decode cX12_number 129 = .ok (.iload 4, 2) := by decide +kernel
theorem dX12_number_131 : decode cX12_number 131 = .ok (.goto 4, 3) := by decide +kernel
theorem dX12_number_134 : decode cX12_number 134 = .ok (.iconst 0, 1) := by decide +kernel
theorem dX12_number_135 : decode cX12_number 135 = .ok (.ireturn, 1) := by decide +kernel
theorem dX12_wordHere_0 : decode cX12_wordHere 0 = .ok (.aload_n 0, 1) := by decide +kernel
theorem dX12_wordHere_1 : decode cX12_wordHere 1 = .ok (.invokevirtual 116, 3) := by decide +kernel
theorem dX12_wordHere_4 : decode cX12_wordHere 4 = .ok (.iconst 0, 1) := by decide +kernel
theorem dX12_wordHere_5 : decode cX12_wordHere 5 = .ok (.istore_n 1, 1) := by decide +kernel
theorem dX12_wordHere_6 : decode cX12_wordHere 6 = .ok (.iconst 0, 1) := by decide +kernel
theorem dX12_wordHere_7 : decode cX12_wordHere 7 = .ok (.istore_n 2, 1) := by decide +kernel
theorem dX12_wordHere_8 : decode cX12_wordHere 8 = .ok (.aload_n 0, 1) := by decide +kernel
theorem dX12_wordHere_9 : decode cX12_wordHere 9 = .ok (.aload_n 0, 1) := by decide +kernel
theorem dX12_wordHere_10 : decode cX12_wordHere 10 = .ok (.getfield 103, 3) := by decide +kernel
theorem dX12_wordHere_13 : decode cX12_wordHere 13 = .ok (.iload_n 2, 1) := by decide +kernel
theorem dX12_wordHere_14 : decode cX12_wordHere 14 = .ok (.iadd, 1) := by decide +kernel
theorem dX12_wordHere_15 : decode cX12_wordHere 15 = .ok (.invokevirtual 106, 3) := by decide +kernel
theorem dX12_wordHere_18 : decode cX12_wordHere 18 = .ok (.invokestatic 132, 3) := by decide +kernel
theorem dX12_wordHere_21 : decode cX12_wordHere 21 = .ok (.ifCond .eq 40, 3) := by decide +kernel
theorem dX12_wordHere_24 : decode cX12_wordHere 24 = .ok (.iload_n 2, 1) := by decide +kernel
theorem dX12_wordHere_25 : decode cX12_wordHere 25 = .ok (.bipush 6, 2) := by decide +kernel
theorem dX12_wordHere_27 : decode cX12_wordHere 27 = .ok (.if_icmp .ge 26, 3) := by decide +kernel
theorem dX12_wordHere_30 : decode cX12_wordHere 30 = .ok (.bipush 27, 2) := by decide +kernel
theorem dX12_wordHere_32 : decode cX12_wordHere 32 = .ok (.iload_n 1, 1) := by decide +kernel
theorem dX12_wordHere_33 : decode cX12_wordHere 33 = .ok (.imul, 1) := by decide +kernel
theorem dX12_wordHere_34 : decode cX12_wordHere 34 = .ok (.aload_n 0, 1) := by decide +kernel
theorem dX12_wordHere_35 : decode cX12_wordHere 35 = .ok (.aload_n 0, 1) := by decide +kernel
theorem dX12_wordHere_36 : decode cX12_wordHere 36 = .ok (.getfield 103, 3) := by decide +kernel
theorem dX12_wordHere_39 : decode cX12_wordHere 39 = .ok (.iload_n 2, 1) := by decide +kernel
theorem dX12_wordHere_40 : decode cX12_wordHere 40 = .ok (.iadd, 1) := by decide +kernel
theorem dX12_wordHere_41 : decode cX12_wordHere 41 = .ok (.invokevirtual 106, 3) := by decide +kernel
theorem dX12_wordHere_44 : decode cX12_wordHere 44 = .ok (.iadd, 1) := by decide +kernel
theorem dX12_wordHere_45 : decode cX12_wordHere 45 = .ok (.bipush 97, 2) := by decide +kernel
theorem dX12_wordHere_47 : decode cX12_wordHere 47 = .ok (.isub, 1) := by decide +kernel
theorem dX12_wordHere_48 : decode cX12_wordHere 48 = .ok (.iconst 1, 1) := by decide +kernel
theorem dX12_wordHere_49 : decode cX12_wordHere 49 = .ok (.iadd, 1) := by decide +kernel
theorem dX12_wordHere_50 : decode cX12_wordHere 50 = .ok (.goto 4, 3) := by decide +kernel
theorem dX12_wordHere_53 : decode cX12_wordHere 53 = .ok (.iload_n 1, 1) := by decide +kernel
theorem dX12_wordHere_54 : decode cX12_wordHere 54 = .ok (.istore_n 1, 1) := by decide +kernel
theorem dX12_wordHere_55 : decode cX12_wordHere 55 = .ok (.iinc 2 1, 3) := by decide +kernel
theorem dX12_wordHere_58 : decode cX12_wordHere 58 = .ok (.goto (-50), 3) := by decide +kernel
theorem dX12_wordHere_61 : decode cX12_wordHere 61 = .ok (.iload_n 2, 1) := by decide +kernel
theorem dX12_wordHere_62 : decode cX12_wordHere 62 = .ok (.bipush 6, 2) := by decide +kernel
theorem dX12_wordHere_64 : decode cX12_wordHere 64 = .ok (.if_icmp .le 7, 3) := by decide +kernel
theorem dX12_wordHere_67 : decode cX12_wordHere 67 = .ok (.iconst (-1), 1) := by decide +kernel
theorem dX12_wordHere_68 : decode cX12_wordHere 68 = .ok (.goto 4, 3) := by decide +kernel
theorem dX12_wordHere_71 : decode cX12_wordHere 71 = .ok (.iload_n 1, 1) := by decide +kernel
theorem dX12_wordHere_72 : decode cX12_wordHere 72 = .ok (.ireturn, 1) := by decide +kernel
theorem dX12_six_0 : decode cX12_six 0 = .ok (.bipush 27, 2) := by decide +kernel
theorem dX12_six_2 : decode cX12_six 2 = .ok (.bipush 27, 2) := by decide +kernel
theorem dX12_six_4 : decode cX12_six 4 = .ok (.iload_n 0, 1) := by decide +kernel
theorem dX12_six_5 : decode cX12_six 5 = .ok (.imul, 1) := by decide +kernel
theorem dX12_six_6 : decode cX12_six 6 = .ok (.iload_n 1, 1) := by decide +kernel
theorem dX12_six_7 : decode cX12_six 7 = .ok (.iadd, 1) := by decide +kernel
theorem dX12_six_8 : decode cX12_six 8 = .ok (.imul, 1) := by decide +kernel
theorem dX12_six_9 : decode cX12_six 9 = .ok (.iload_n 2, 1) := by decide +kernel
theorem dX12_six_10 : decode cX12_six 10 = .ok (.iadd, 1) := by decide +kernel
theorem dX12_six_11 : decode cX12_six 11 = .ok (.istore 6, 2) := by decide +kernel
theorem dX12_six_13 : decode cX12_six 13 = .ok (.iload_n 3, 1) := by decide +kernel
theorem dX12_six_14 : decode cX12_six 14 = .ok (.ifCond .ne 8, 3) := by decide +kernel
theorem dX12_six_17 : decode cX12_six 17 = .ok (.iload 6, 2) := by decide +kernel
theorem dX12_six_19 : decode cX12_six 19 = .ok (.goto 10, 3) := by decide +kernel
theorem dX12_six_22 : decode cX12_six 22 = .ok (.bipush 27, 2) := by decide +kernel
theorem dX12_six_24 : decode cX12_six 24 = .ok (.iload 6, 2) := by decide +kernel
theorem dX12_six_26 : decode cX12_six 26 = .ok (.imul, 1) := by decide +kernel
theorem dX12_six_27 : decode cX12_six 27 = .ok (.iload_n 3, 1) := by decide +kernel
theorem dX12_six_28 : decode cX12_six 28 = .ok (.iadd, 1) := by decide +kernel
theorem dX12_six_29 : decode cX12_six 29 = .ok (.istore 6, 2) := by decide +kernel
theorem dX12_six_31 : decode cX12_six 31 = .ok (.iload 4, 2) := by decide +kernel
theorem dX12_six_33 : decode cX12_six 33 = .ok (.ifCond .ne 8, 3) := by decide +kernel
theorem dX12_six_36 : decode cX12_six 36 = .ok (.iload 6, 2) := by decide +kernel
theorem dX12_six_38 : decode cX12_six 38 = .ok (.goto 11, 3) := by decide +kernel
theorem dX12_six_41 : decode cX12_six 41 = .ok (.bipush 27, 2) := by decide +kernel
theorem dX12_six_43 : decode cX12_six 43 = .ok (.iload 6, 2) := by decide +kernel
theorem dX12_six_45 : decode cX12_six 45 = .ok (.imul, 1) := by decide +kernel
theorem dX12_six_46 : decode cX12_six 46 = .ok (.iload 4, 2) := by decide +kernel
theorem dX12_six_48 : decode cX12_six 48 = .ok (.iadd, 1) := by decide +kernel
theorem dX12_six_49 : decode cX12_six 49 = .ok (.istore 6, 2) := by decide +kernel
theorem dX12_six_51 : decode cX12_six 51 = .ok (.iload 5, 2) := by decide +kernel
theorem dX12_six_53 : decode cX12_six 53 = .ok (.ifCond .ne 8, 3) := by decide +kernel
theorem dX12_six_56 : decode cX12_six 56 = .ok (.iload 6, 2) := by decide +kernel
theorem dX12_six_58 : decode cX12_six 58 = .ok (.goto 11, 3) := by decide +kernel
theorem dX12_six_61 : decode cX12_six 61 = .ok (.bipush 27, 2) := by decide +kernel
theorem dX12_six_63 : decode cX12_six 63 = .ok (.iload 6, 2) := by decide +kernel
theorem dX12_six_65 : decode cX12_six 65 = .ok (.imul, 1) := by decide +kernel
theorem dX12_six_66 : decode cX12_six 66 = .ok (.iload 5, 2) := by decide +kernel
theorem dX12_six_68 : decode cX12_six 68 = .ok (.iadd, 1) := by decide +kernel
theorem dX12_six_69 : decode cX12_six 69 = .ok (.ireturn, 1) := by decide +kernel
theorem dX12_isWord_0 : decode cX12_isWord 0 = .ok (.aload_n 0, 1) := by decide +kernel
theorem dX12_isWord_1 : decode cX12_isWord 1 = .ok (.getfield 110, 3) := by decide +kernel
theorem dX12_isWord_4 : decode cX12_isWord 4 = .ok (.ifCond .ne 26, 3) := by decide +kernel
theorem dX12_isWord_7 : decode cX12_isWord 7 = .ok (.aload_n 0, 1) := by decide +kernel
theorem dX12_isWord_8 : decode cX12_isWord 8 = .ok (.invokevirtual 135, 3) := by decide +kernel
theorem dX12_isWord_11 : decode cX12_isWord 11 = .ok (.iload_n 1, 1) := by decide +kernel
theorem dX12_isWord_12 : decode cX12_isWord 12 = .ok (.iload_n 2, 1) := by decide +kernel
theorem dX12_isWord_13 : decode cX12_isWord 13 = .ok (.iload_n 3, 1) := by decide +kernel
theorem dX12_isWord_14 : decode cX12_isWord 14 = .ok (.iload 4, 2) := by decide +kernel
theorem dX12_isWord_16 : decode cX12_isWord 16 = .ok (.iload 5, 2) := by decide +kernel
theorem dX12_isWord_18 : decode cX12_isWord 18 = .ok (.iload 6, 2) := by decide +kernel
theorem dX12_isWord_20 : decode cX12_isWord 20 = .ok (.invokestatic 139, 3) := by decide +kernel
theorem dX12_isWord_23 : decode cX12_isWord 23 = .ok (.if_icmp .ne 7, 3) := by decide +kernel
theorem dX12_isWord_26 : decode cX12_isWord 26 = .ok (.iconst 1, 1) := by decide +kernel
theorem dX12_isWord_27 : decode cX12_isWord 27 = .ok (.goto 4, 3) := by decide +kernel
theorem dX12_isWord_30 : decode cX12_isWord 30 = .ok (.iconst 0, 1) := by decide +kernel
theorem dX12_isWord_31 : decode cX12_isWord 31 = .ok (.ireturn, 1) := by decide +kernel
theorem dX12_skipWord_0 : decode cX12_skipWord 0 = .ok (.aload_n 0, 1) := by decide +kernel
theorem dX12_skipWord_1 : decode cX12_skipWord 1 = .ok (.aload_n 0, 1) := by decide +kernel
theorem dX12_skipWord_2 : decode cX12_skipWord 2 = .ok (.getfield 103, 3) := by decide +kernel
theorem dX12_skipWord_5 : decode cX12_skipWord 5 = .ok (.invokevirtual 106, 3) := by decide +kernel
theorem dX12_skipWord_8 : decode cX12_skipWord 8 = .ok (.invokestatic 132, 3) := by decide +kernel
theorem dX12_skipWord_11 : decode cX12_skipWord 11 = .ok (.ifCond .eq 16, 3) := by decide +kernel
theorem dX12_skipWord_14 : decode cX12_skipWord 14 = .ok (.aload_n 0, 1) := by decide +kernel
theorem dX12_skipWord_15 : decode cX12_skipWord 15 = .ok (.dup, 1) := by decide +kernel
theorem dX12_skipWord_16 : decode cX12_skipWord 16 = .ok (.getfield 103, 3) := by decide +kernel
theorem dX12_skipWord_19 : decode cX12_skipWord 19 = .ok (.iconst 1, 1) := by decide +kernel
theorem dX12_skipWord_20 : decode cX12_skipWord 20 = .ok (.iadd, 1) := by decide +kernel
theorem dX12_skipWord_21 : decode cX12_skipWord 21 = .ok (.putfield 103, 3) := by decide +kernel
theorem dX12_skipWord_24 : decode cX12_skipWord 24 = .ok (.goto (-24), 3) := by decide +kernel
theorem dX12_skipWord_27 : decode cX12_skipWord 27 = .ok (.return_, 1) := by decide +kernel
theorem dX12_takes_0 : decode cX12_takes 0 = .ok (.aload_n 0, 1) := by decide +kernel
theorem dX12_takes_1 : decode cX12_takes 1 = .ok (.iload_n 1, 1) := by decide +kernel
theorem dX12_takes_2 : decode cX12_takes 2 = .ok (.iload_n 2, 1) := by decide +kernel
theorem dX12_takes_3 : decode cX12_takes 3 = .ok (.iload_n 3, 1) := by decide +kernel
theorem dX12_takes_4 : decode cX12_takes 4 = .ok (.iload 4, 2) := by decide +kernel
theorem dX12_takes_6 : decode cX12_takes 6 = .ok (.iload 5, 2) := by decide +kernel
theorem dX12_takes_8 : decode cX12_takes 8 = .ok (.iload 6, 2) := by decide +kernel
theorem dX12_takes_10 : decode cX12_takes 10 = .ok (.invokevirtual 143, 3) := by decide +kernel
theorem dX12_takes_13 : decode cX12_takes 13 = .ok (.istore 7, 2) := by decide +kernel
theorem dX12_takes_15 : decode cX12_takes 15 = .ok (.iload 7, 2) := by decide +kernel
theorem dX12_takes_17 : decode cX12_takes 17 = .ok (.ifCond .eq 7, 3) := by decide +kernel
theorem dX12_takes_20 : decode cX12_takes 20 = .ok (.aload_n 0, 1) := by decide +kernel
theorem dX12_takes_21 : decode cX12_takes 21 = .ok (.invokevirtual 147, 3) := by decide +kernel
theorem dX12_takes_24 : decode cX12_takes 24 = .ok (.iload 7, 2) := by decide +kernel
theorem dX12_takes_26 : decode cX12_takes 26 = .ok (.ireturn, 1) := by decide +kernel
theorem dX12_sign_0 : decode cX12_sign 0 = .ok (.aload_n 0, 1) := by decide +kernel
theorem dX12_sign_1 : decode cX12_sign 1 = .ok (.getfield 110, 3) := by decide +kernel
theorem dX12_sign_4 : decode cX12_sign 4 = .ok (.ifCond .eq 4, 3) := by decide +kernel
theorem dX12_sign_7 : decode cX12_sign 7 = .ok (.return_, 1) := by decide +kernel
theorem dX12_sign_8 : decode cX12_sign 8 = .ok (.aload_n 0, 1) := by decide +kernel
theorem dX12_sign_9 : decode cX12_sign 9 = .ok (.invokevirtual 116, 3) := by decide +kernel
theorem dX12_sign_12 : decode cX12_sign 12 = .ok (.aload_n 0, 1) := by decide +kernel
theorem dX12_sign_13 : decode cX12_sign 13 = .ok (.aload_n 0, 1) := by decide +kernel
theorem dX12_sign_14 : decode cX12_sign 14 = .ok (.getfield 103, 3) := by decide +kernel
theorem dX12_sign_17 : decode cX12_sign 17 = .ok (.invokevirtual 106, 3) := by decide +kernel
theorem dX12_sign_20 : decode cX12_sign 20 = .ok (.iload_n 1, 1) := by decide +kernel
theorem dX12_sign_21 : decode cX12_sign 21 = .ok (.if_icmp .ne 16, 3) := by decide +kernel
theorem dX12_sign_24 : decode cX12_sign 24 = .ok (.aload_n 0, 1) := by decide +kernel
theorem dX12_sign_25 : decode cX12_sign 25 = .ok (.dup, 1) := by decide +kernel
theorem dX12_sign_26 : decode cX12_sign 26 = .ok (.getfield 103, 3) := by decide +kernel
theorem dX12_sign_29 : decode cX12_sign 29 = .ok (.iconst 1, 1) := by decide +kernel
theorem dX12_sign_30 : decode cX12_sign 30 = .ok (.iadd, 1) := by decide +kernel
theorem dX12_sign_31 : decode cX12_sign 31 = .ok (.putfield 103, 3) := by decide +kernel
theorem dX12_sign_34 : decode cX12_sign 34 = .ok (.goto 12, 3) := by decide +kernel
theorem dX12_sign_37 : decode cX12_sign 37 = .ok (.aload_n 0, 1) := by decide +kernel
theorem dX12_sign_38 : decode cX12_sign 38 = .ok (.iconst 1, 1) := by decide +kernel
theorem dX12_sign_39 : decode cX12_sign 39 = .ok (.aload_n 0, 1) := by decide +kernel
theorem dX12_sign_40 : decode cX12_sign 40 = .ok (.getfield 103, 3) := by decide +kernel
theorem dX12_sign_43 : decode cX12_sign 43 = .ok (.invokevirtual 123, 3) := by decide +kernel
theorem dX12_sign_46 : decode cX12_sign 46 = .ok (.return_, 1) := by decide +kernel
theorem dX12_takesSign_0 : decode cX12_takesSign 0 = .ok (.aload_n 0, 1) := by decide +kernel
theorem dX12_takesSign_1 : decode cX12_takesSign 1 = .ok (.getfield 110, 3) := by decide +kernel
theorem dX12_takesSign_4 : decode cX12_takesSign 4 = .ok (.ifCond .eq 5, 3) := by decide +kernel
theorem dX12_takesSign_7 : decode cX12_takesSign 7 = .ok (.iconst 0, 1) := by decide +kernel
theorem dX12_takesSign_8 : decode cX12_takesSign 8 = .ok (.ireturn, 1) := by decide +kernel
theorem dX12_takesSign_9 : decode cX12_takesSign 9 = .ok (.aload_n 0, 1) := by decide +kernel
theorem dX12_takesSign_10 : decode cX12_takesSign 10 = .ok (.invokevirtual 116, 3) := by decide +kernel
theorem dX12_takesSign_13 : decode cX12_takesSign 13 = .ok (.aload_n 0, 1) := by decide +kernel
theorem dX12_takesSign_14 : decode cX12_takesSign 14 = .ok (.aload_n 0, 1) := by decide +kernel
theorem dX12_takesSign_15 : decode cX12_takesSign 15 = .ok (.getfield 103, 3) := by decide +kernel
theorem dX12_takesSign_18 : decode cX12_takesSign 18 = .ok (.invokevirtual 106, 3) := by decide +kernel
theorem dX12_takesSign_21 : decode cX12_takesSign 21 = .ok (.iload_n 1, 1) := by decide +kernel
theorem dX12_takesSign_22 : decode cX12_takesSign 22 = .ok (.if_icmp .ne 7, 3) := by decide +kernel
theorem dX12_takesSign_25 : decode cX12_takesSign 25 = .ok (.iconst 1, 1) := by decide +kernel
theorem dX12_takesSign_26 : decode cX12_takesSign 26 = .ok (.goto 4, 3) := by decide +kernel
theorem dX12_takesSign_29 : decode cX12_takesSign 29 = .ok (.iconst 0, 1) := by decide +kernel
theorem dX12_takesSign_30 : decode cX12_takesSign 30 = .ok (.istore_n 2, 1) := by decide +kernel
theorem dX12_takesSign_31 : decode cX12_takesSign 31 = .ok (.iload_n 2, 1) := by decide +kernel
theorem dX12_takesSign_32 : decode cX12_takesSign 32 = .ok (.ifCond .eq 13, 3) := by decide +kernel
theorem dX12_takesSign_35 : decode cX12_takesSign 35 = .ok (.aload_n 0, 1) := by decide +kernel
theorem dX12_takesSign_36 : decode cX12_takesSign 36 = .ok (.dup, 1) := by decide +kernel
theorem dX12_takesSign_37 : decode cX12_takesSign 37 = .ok (.getfield 103, 3) := by decide +kernel
theorem dX12_takesSign_40 : decode cX12_takesSign 40 = .ok (.iconst 1, 1) := by decide +kernel
theorem dX12_takesSign_41 : decode cX12_takesSign 41 = .ok (.iadd, 1) := by decide +kernel
theorem dX12_takesSign_42 : decode cX12_takesSign 42 = .ok (.putfield 103, 3) := by decide +kernel
theorem dX12_takesSign_45 : decode cX12_takesSign 45 = .ok (.iload_n 2, 1) := by decide +kernel
theorem dX12_takesSign_46 : decode cX12_takesSign 46 = .ok (.ireturn, 1) := by decide +kernel
theorem dX12_starts_0 : decode cX12_starts 0 = .ok (.aload_n 0, 1) := by decide +kernel
theorem dX12_starts_1 : decode cX12_starts 1 = .ok (.iconst 0, 1) := by decide +kernel
theorem dX12_starts_2 : decode cX12_starts 2 = .ok (.putfield 97, 3) := by decide +kernel
theorem dX12_starts_5 : decode cX12_starts 5 = .ok (.aload_n 0, 1) := by decide +kernel
theorem dX12_starts_6 : decode cX12_starts 6 = .ok (.iload_n 1, 1) := by decide +kernel
theorem dX12_starts_7 : decode cX12_starts 7 = .ok (.putfield 100, 3) := by decide +kernel
theorem dX12_starts_10 : decode cX12_starts 10 = .ok (.aload_n 0, 1) := by decide +kernel
theorem dX12_starts_11 : decode cX12_starts 11 = .ok (.iconst 0, 1) := by decide +kernel
theorem dX12_starts_12 : decode cX12_starts 12 = .ok (.putfield 103, 3) := by decide +kernel
theorem dX12_starts_15 : decode cX12_starts 15 = .ok (.aload_n 0, 1) := by decide +kernel
theorem dX12_starts_16 : decode cX12_starts 16 = .ok (.iconst 0, 1) := by decide +kernel
theorem dX12_starts_17 : decode cX12_starts 17 = .ok (.putfield 110, 3) := by decide +kernel
theorem dX12_starts_20 : decode cX12_starts 20 = .ok (.aload_n 0, 1) := by decide +kernel
theorem dX12_starts_21 : decode cX12_starts 21 = .ok (.iconst (-1), 1) := by decide +kernel
theorem dX12_starts_22 : decode cX12_starts 22 = .ok (.putfield 113, 3) := by decide +kernel
theorem dX12_starts_25 : decode cX12_starts 25 = .ok (.aload_n 0, 1) := by decide +kernel
theorem dX12_starts_26 : decode cX12_starts 26 = .ok (.iconst 0, 1) := by decide +kernel
theorem dX12_starts_27 : decode cX12_starts 27 = .ok (.putfield 150, 3) := by decide +kernel
theorem dX12_starts_30 : decode cX12_starts 30 = .ok (.aload_n 0, 1) := by decide +kernel
theorem dX12_starts_31 : decode cX12_starts 31 = .ok (.iconst 0, 1) := by decide +kernel
theorem dX12_starts_32 : decode cX12_starts 32 = .ok (.putfield 153, 3) := by decide +kernel
theorem dX12_starts_35 : decode cX12_starts 35 = .ok (.aload_n 0, 1) := by decide +kernel
theorem dX12_starts_36 : decode cX12_starts 36 = .ok (.invokevirtual 116, 3) := by decide +kernel
theorem dX12_starts_39 : decode cX12_starts 39 = .ok (.return_, 1) := by decide +kernel
theorem dX12_ends_0 : decode cX12_ends 0 = .ok (.aload_n 0, 1) := by decide +kernel
theorem dX12_ends_1 : decode cX12_ends 1 = .ok (.aload_n 0, 1) := by decide +kernel
theorem dX12_ends_2 : decode cX12_ends 2 = .ok (.getfield 113, 3) := by decide +kernel
theorem dX12_ends_5 : decode cX12_ends 5 = .ok (.putfield 9, 3) := by decide +kernel
theorem dX12_ends_8 : decode cX12_ends 8 = .ok (.aload_n 0, 1) := by decide +kernel
theorem dX12_ends_9 : decode cX12_ends 9 = .ok (.getfield 110, 3) := by decide +kernel
theorem dX12_ends_12 : decode cX12_ends 12 = .ok (.bipush 10, 2) := by decide +kernel
theorem dX12_ends_14 : decode cX12_ends 14 = .ok (.isub, 1) := by decide +kernel
theorem dX12_ends_15 : decode cX12_ends 15 = .ok (.ireturn, 1) := by decide +kernel
theorem dX12_kindHere_0 : decode cX12_kindHere 0 = .ok (.aload_n 0, 1) := by decide +kernel
theorem dX12_kindHere_1 : decode cX12_kindHere 1 = .ok (.bipush 16, 2) := by decide +kernel
theorem dX12_kindHere_3 : decode cX12_kindHere 3 = .ok (.iconst 5, 1) := by decide +kernel
theorem dX12_kindHere_4 : decode cX12_kindHere 4 = .ok (.bipush 14, 2) := by decide +kernel
theorem dX12_kindHere_6 : decode cX12_kindHere 6 = .ok (.iconst 0, 1) := by decide +kernel
theorem dX12_kindHere_7 : decode cX12_kindHere 7 = .ok (.iconst 0, 1) := by decide +kernel
theorem dX12_kindHere_8 : decode cX12_kindHere 8 = .ok (.iconst 0, 1) := by decide +kernel
theorem dX12_kindHere_9 : decode cX12_kindHere 9 = .ok (.invokevirtual 143, 3) := by decide +kernel
theorem dX12_kindHere_12 : decode cX12_kindHere 12 = .ok (.ifCond .eq 5, 3) := by decide +kernel
theorem dX12_kindHere_15 : decode cX12_kindHere 15 = .ok (.iconst 0, 1) := by decide +kernel
theorem dX12_kindHere_16 : decode cX12_kindHere 16 = .ok (.ireturn, 1) := by decide +kernel
theorem dX12_kindHere_17 : decode cX12_kindHere 17 = .ok (.aload_n 0, 1) := by decide +kernel
theorem dX12_kindHere_18 : decode cX12_kindHere 18 = .ok (.bipush 23, 2) := by decide +kernel
theorem dX12_kindHere_20 : decode cX12_kindHere 20 = .ok (.bipush 9, 2) := by decide +kernel
theorem dX12_kindHere_22 : decode cX12_kindHere 22 = .ok (.bipush 18, 2) := by decide +kernel
theorem dX12_kindHere_24 : decode cX12_kindHere 24 = .ok (.iconst 5, 1) := by decide +kernel
theorem dX12_kindHere_25 : decode cX12_kindHere 25 = .ok (.iconst 0, 1) := by decide +kernel
theorem dX12_kindHere_26 : decode cX12_kindHere 26 = .ok (.iconst 0, 1) := by decide +kernel
theorem dX12_kindHere_27 : decode cX12_kindHere 27 = .ok (.invokevirtual 143, 3) := by decide +kernel
theorem dX12_kindHere_30 : decode cX12_kindHere 30 = .ok (.ifCond .eq 5, 3) := by decide +kernel
theorem dX12_kindHere_33 : decode cX12_kindHere 33 = .ok (.iconst 1, 1) := by decide +kernel
theorem dX12_kindHere_34 : decode cX12_kindHere 34 = .ok (.ireturn, 1) := by decide +kernel
theorem dX12_kindHere_35 : decode cX12_kindHere 35 = .ok (.aload_n 0, 1) := by decide +kernel
theorem dX12_kindHere_36 : decode cX12_kindHere 36 = .ok (.bipush 19, 2) := by decide +kernel
theorem dX12_kindHere_38 : decode cX12_kindHere 38 = .ok (.bipush 8, 2) := by decide +kernel
theorem dX12_kindHere_40 : decode cX12_kindHere 40 = .ok (.iconst 5, 1) := by decide +kernel
theorem dX12_kindHere_41 : decode cX12_kindHere 41 = .ok (.iconst 5, 1) := by decide +kernel
theorem dX12_kindHere_42 : decode cX12_kindHere 42 = .ok (.bipush 20, 2) := by decide +kernel
theorem dX12_kindHere_44 : decode cX12_kindHere 44 = .ok (.iconst 0, 1) := by decide +kernel
theorem dX12_kindHere_45 : decode cX12_kindHere 45 = .ok (.invokevirtual 143, 3) := by decide +kernel
theorem dX12_kindHere_48 : decode cX12_kindHere 48 = .ok (.ifCond .eq 7, 3) := by decide +kernel
theorem dX12_kindHere_51 : decode cX12_kindHere 51 = .ok (.iconst 2, 1) := by decide +kernel
theorem dX12_kindHere_52 : decode cX12_kindHere 52 = .ok (.goto 4, 3) := by decide +kernel
theorem dX12_kindHere_55 : decode cX12_kindHere 55 = .ok (.iconst (-1), 1) := by decide +kernel
theorem dX12_kindHere_56 : decode cX12_kindHere 56 = .ok (.ireturn, 1) := by decide +kernel
theorem dX12_clause_0 : decode cX12_clause 0 = .ok (.aload_n 0, 1) := by decide +kernel
theorem dX12_clause_1 : decode cX12_clause 1 = .ok (.invokevirtual 156, 3) := by decide +kernel
theorem dX12_clause_4 : decode cX12_clause 4 = .ok (.istore_n 1, 1) := by decide +kernel
theorem dX12_clause_5 : decode cX12_clause 5 = .ok (.iload_n 1, 1) := by decide +kernel
theorem dX12_clause_6 : decode cX12_clause 6 = .ok (.iconst (-1), 1) := by decide +kernel
theorem dX12_clause_7 : decode cX12_clause 7 = .ok (.if_icmp .ne 15, 3) := by decide +kernel
theorem dX12_clause_10 : decode cX12_clause 10 = .ok (.aload_n 0, 1) := by decide +kernel
theorem dX12_clause_11 : decode cX12_clause 11 = .ok (.iconst 1, 1) := by decide +kernel
theorem dX12_clause_12 : decode cX12_clause 12 = .ok (.aload_n 0, 1) := by decide +kernel
theorem dX12_clause_13 : decode cX12_clause 13 = .ok (.getfield 103, 3) := by decide +kernel
theorem dX12_clause_16 : decode cX12_clause 16 = .ok (.invokevirtual 123, 3) := by decide +kernel
theorem dX12_clause_19 : decode cX12_clause 19 = .ok (.goto 52, 3) := by decide +kernel
theorem dX12_clause_22 : decode cX12_clause 22 = .ok (.aload_n 0, 1) := by decide +kernel
theorem dX12_clause_23 : decode cX12_clause 23 = .ok (.getfield 150, 3) := by decide +kernel
theorem dX12_clause_26 : decode cX12_clause 26 = .ok (.bipush 60, 2) := by decide +kernel
theorem dX12_clause_28 : decode cX12_clause 28 = .ok (.if_icmp .eq 34, 3) := by decide +kernel
theorem dX12_clause_31 : decode cX12_clause 31 = .ok (.iload_n 1, 1) := by decide +kernel
theorem dX12_clause_32 : decode cX12_clause 32 = .ok (.ifCond .ne 14, 3) := by decide +kernel
theorem dX12_clause_35 : decode cX12_clause 35 = .ok (.aload_n 0, 1) := by decide +kernel
theorem dX12_clause_36 : decode cX12_clause 36 = .ok (.getfield 20, 3) := by decide +kernel
theorem dX12_clause_39 : decode cX12_clause 39 = .ok (.iconst 0, 1) := by decide +kernel
theorem dX12_clause_40 : decode cX12_clause 40 = .ok (.iaload, 1) := by decide +kernel
theorem dX12_clause_41 : decode cX12_clause 41 = .ok (.bipush 8, 2) := by decide +kernel
theorem dX12_clause_43 : decode cX12_clause 43 = .ok (.if_icmp .eq 19, 3) := by decide +kernel
theorem dX12_clause_46 : decode cX12_clause 46 = .ok (.iload_n 1, 1) := by decide +kernel
theorem dX12_clause_47 : decode cX12_clause 47 = .ok (.iconst 1, 1) := by decide +kernel
theorem dX12_clause_48 : decode cX12_clause 48 = .ok (.if_icmp .ne 23, 3) := by decide +kernel
theorem dX12_clause_51 : decode cX12_clause 51 = .ok (.aload_n 0, 1) := by decide +kernel
theorem dX12_clause_52 : decode cX12_clause 52 = .ok (.getfield 20, 3) := by decide +kernel
theorem dX12_clause_55 : decode cX12_clause 55 = .ok (.iconst 1, 1) := by decide +kernel
theorem dX12_clause_56 : decode cX12_clause 56 = .ok (.iaload, 1) := by decide +kernel
theorem dX12_clause_57 : decode cX12_clause 57 = .ok (.bipush 16, 2) := by decide +kernel
theorem dX12_clause_59 : decode cX12_clause 59 = .ok (.if_icmp .ne 12, 3) := by decide +kernel
theorem dX12_clause_62 : decode cX12_clause 62 = .ok (.aload_n 0, 1) := by decide +kernel
theorem dX12_clause_63 : decode cX12_clause 63 = .ok (.iconst 3, 1) := by decide +kernel
theorem dX12_clause_64 : decode cX12_clause 64 = .ok (.aload_n 0, 1) := by decide +kernel
theorem dX12_clause_65 : decode cX12_clause 65 = .ok (.getfield 103, 3) := by decide +kernel
theorem dX12_clause_68 : decode cX12_clause 68 = .ok (.invokevirtual 123, 3) := by decide +kernel
theorem dX12_clause_71 : decode cX12_clause 71 = .ok (.aload_n 0, 1) := by decide +kernel
theorem dX12_clause_72 : decode cX12_clause 72 = .ok (.getfield 110, 3) := by decide +kernel
theorem dX12_clause_75 : decode cX12_clause 75 = .ok (.ifCond .eq 4, 3) := by decide +kernel
theorem dX12_clause_78 : decode cX12_clause 78 = .ok (.return_, 1) := by decide +kernel
theorem dX12_clause_79 : decode cX12_clause 79 = .ok (.aload_n 0, 1) := by decide +kernel
theorem dX12_clause_80 : decode cX12_clause 80 = .ok (.invokevirtual 147, 3) := by decide +kernel
theorem dX12_clause_83 : decode cX12_clause 83 = .ok (.aload_n 0, 1) := by decide +kernel
theorem dX12_clause_84 : decode cX12_clause 84 = .ok (.dup, 1) := by decide +kernel
theorem dX12_clause_85 : decode cX12_clause 85 = .ok (.getfield 150, 3) := by decide +kernel
theorem dX12_clause_88 : decode cX12_clause 88 = .ok (.iconst 1, 1) := by decide +kernel
theorem dX12_clause_89 : decode cX12_clause 89 = .ok (.iadd, 1) := by decide +kernel
theorem dX12_clause_90 : decode cX12_clause 90 = .ok (.putfield 150, 3) := by decide +kernel
theorem dX12_clause_93 : decode cX12_clause 93 = .ok (.iload_n 1, 1) := by decide +kernel
theorem dX12_clause_94 : decode cX12_clause 94 = .ok (.ifCond .ne 63, 3) := by decide +kernel
theorem dX12_clause_97 : decode cX12_clause 97 = .ok (.aload_n 0, 1) := by decide +kernel
theorem dX12_clause_98 : decode cX12_clause 98 = .ok (.getfield 28, 3) := by decide +kernel
theorem dX12_clause_101 : decode cX12_clause 101 = .ok (.aload_n 0, 1) := by decide +kernel
theorem dX12_clause_102 : decode cX12_clause 102 = .ok (.getfield 20, 3) := by decide +kernel
theorem dX12_clause_105 : decode cX12_clause 105 = .ok (.iconst 0, 1) := by decide +kernel
theorem dX12_clause_106 : decode cX12_clause 106 = .ok (.iaload, 1) := by decide +kernel
theorem dX12_clause_107 : decode cX12_clause 107 = .ok (.aaload, 1) := by decide +kernel
theorem dX12_clause_108 : decode cX12_clause 108 = .ok (.iconst 0, 1) := by decide +kernel
theorem dX12_clause_109 : decode cX12_clause 109 = .ok (.aload_n 0, 1) := by decide +kernel
theorem dX12_clause_110 : decode cX12_clause 110 = .ok (.iconst 0, 1) := by decide +kernel
theorem dX12_clause_111 : decode cX12_clause 111 = .ok (.bipush 7, 2) := by decide +kernel
theorem dX12_clause_113 : decode cX12_clause 113 = .ok (.invokevirtual 159, 3) := by decide +kernel
theorem dX12_clause_116 : decode cX12_clause 116 = .ok (.iastore, 1) := by decide +kernel
theorem dX12_clause_117 : decode cX12_clause 117 = .ok (.aload_n 0, 1) := by decide +kernel
theorem dX12_clause_118 : decode cX12_clause 118 = .ok (.getfield 28, 3) := by decide +kernel
theorem dX12_clause_121 : decode cX12_clause 121 = .ok (.aload_n 0, 1) := by decide +kernel
theorem dX12_clause_122 : decode cX12_clause 122 = .ok (.getfield 20, 3) := by decide +kernel
theorem dX12_clause_125 : decode cX12_clause 125 = .ok (.iconst 0, 1) := by decide +kernel
theorem dX12_clause_126 : decode cX12_clause 126 = .ok (.iaload, 1) := by decide +kernel
theorem dX12_clause_127 : decode cX12_clause 127 = .ok (.aaload, 1) := by decide +kernel
theorem dX12_clause_128 : decode cX12_clause 128 = .ok (.iconst 1, 1) := by decide +kernel
theorem dX12_clause_129 : decode cX12_clause 129 = .ok (.aload_n 0, 1) := by decide +kernel
theorem dX12_clause_130 : decode cX12_clause 130 = .ok (.iconst 0, 1) := by decide +kernel
theorem dX12_clause_131 : decode cX12_clause 131 = .ok (.bipush 99, 2) := by decide +kernel
theorem dX12_clause_133 : decode cX12_clause 133 = .ok (.invokevirtual 159, 3) := by decide +kernel
theorem dX12_clause_136 : decode cX12_clause 136 = .ok (.iastore, 1) := by decide +kernel
theorem dX12_clause_137 : decode cX12_clause 137 = .ok (.aload_n 0, 1) := by decide +kernel
theorem dX12_clause_138 : decode cX12_clause 138 = .ok (.getfield 28, 3) := by decide +kernel
theorem dX12_clause_141 : decode cX12_clause 141 = .ok (.aload_n 0, 1) := by decide +kernel
theorem dX12_clause_142 : decode cX12_clause 142 = .ok (.getfield 20, 3) := by decide +kernel
theorem dX12_clause_145 : decode cX12_clause 145 = .ok (.iconst 0, 1) := by decide +kernel
theorem dX12_clause_146 : decode cX12_clause 146 = .ok (.iaload, 1) := by decide +kernel
theorem dX12_clause_147 : decode cX12_clause 147 = .ok (.aaload, 1) := by decide +kernel
theorem dX12_clause_148 : decode cX12_clause 148 = .ok (.iconst 2, 1) := by decide +kernel
theorem dX12_clause_149 : decode cX12_clause 149 = .ok (.aload_n 0, 1) := by decide +kernel
theorem dX12_clause_150 : decode cX12_clause 150 = .ok (.iconst 0, 1) := by decide +kernel
theorem dX12_clause_151 : decode cX12_clause 151 = .ok (.bipush 99, 2) := by decide +kernel
theorem dX12_clause_153 : decode cX12_clause 153 = .ok (.invokevirtual 159, 3) := by decide +kernel
theorem dX12_clause_156 : decode cX12_clause 156 = .ok (.iastore, 1) := by decide +kernel
theorem dX12_clause_157 : decode cX12_clause 157 = .ok (.iload_n 1, 1) := by decide +kernel
theorem dX12_clause_158 : decode cX12_clause 158 = .ok (.iconst 1, 1) := by decide +kernel
theorem dX12_clause_159 : decode cX12_clause 159 = .ok (.if_icmp .ne 89, 3) := by decide +kernel
theorem dX12_clause_162 : decode cX12_clause 162 = .ok (.aload_n 0, 1) := by decide +kernel
theorem dX12_clause_163 : decode cX12_clause 163 = .ok (.iconst 0, 1) := by decide +kernel
theorem dX12_clause_164 : decode cX12_clause 164 = .ok (.aload_n 0, 1) := by decide +kernel
theorem dX12_clause_165 : decode cX12_clause 165 = .ok (.getfield 20, 3) := by decide +kernel
theorem dX12_clause_168 : decode cX12_clause 168 = .ok (.iconst 0, 1) := by decide +kernel
theorem dX12_clause_169 : decode cX12_clause 169 = .ok (.iaload, 1) := by decide +kernel
theorem dX12_clause_170 : decode cX12_clause 170 = .ok (.iconst 1, 1) := by decide +kernel
theorem dX12_clause_171 : decode cX12_clause 171 = .ok (.isub, 1) := by decide +kernel
theorem dX12_clause_172 : decode cX12_clause 172 = .ok (.invokevirtual 159, 3) := by decide +kernel
theorem dX12_clause_175 : decode cX12_clause 175 = .ok (.istore_n 2, 1) := by decide +kernel
theorem dX12_clause_176 : decode cX12_clause 176 = .ok (.aload_n 0, 1) := by decide +kernel
theorem dX12_clause_177 : decode cX12_clause 177 = .ok (.invokevirtual 116, 3) := by decide +kernel
theorem dX12_clause_180 : decode cX12_clause 180 = .ok (.aload_n 0, 1) := by decide +kernel
theorem dX12_clause_181 : decode cX12_clause 181 = .ok (.getfield 103, 3) := by decide +kernel
theorem dX12_clause_184 : decode cX12_clause 184 = .ok (.istore_n 3, 1) := by decide +kernel
theorem dX12_clause_185 : decode cX12_clause 185 = .ok (.aload_n 0, 1) := by decide +kernel
theorem dX12_clause_186 : decode cX12_clause 186 = .ok (.iconst 0, 1) := by decide +kernel
theorem dX12_clause_187 : decode cX12_clause 187 = .ok (.aload_n 0, 1) := by decide +kernel
theorem dX12_clause_188 : decode cX12_clause 188 = .ok (.getfield 20, 3) := by decide +kernel
theorem dX12_clause_191 : decode cX12_clause 191 = .ok (.iconst 0, 1) := by decide +kernel
theorem dX12_clause_192 : decode cX12_clause 192 = .ok (.iaload, 1) := by decide +kernel
theorem dX12_clause_193 : decode cX12_clause 193 = .ok (.iconst 1, 1) := by decide +kernel
theorem dX12_clause_194 : decode cX12_clause 194 = .ok (.isub, 1) := by decide +kernel
theorem dX12_clause_195 : decode cX12_clause 195 = .ok (.invokevirtual 159, 3) := by decide +kernel
theorem dX12_clause_198 : decode cX12_clause 198 = .ok (.istore 4, 2) := by decide +kernel
theorem dX12_clause_200 : decode cX12_clause 200 = .ok (.aload_n 0, 1) := by decide +kernel
theorem dX12_clause_201 : decode cX12_clause 201 = .ok (.getfield 110, 3) := by decide +kernel
theorem dX12_clause_204 : decode cX12_clause 204 = .ok (.ifCond .ne 15, 3) := by decide +kernel
theorem dX12_clause_207 : decode cX12_clause 207 = .ok (.iload_n 2, 1) := by decide +kernel
theorem dX12_clause_208 : decode cX12_clause 208 = .ok (.iload 4, 2) := by decide +kernel
theorem dX12_clause_210 : decode cX12_clause 210 = .ok (.if_icmp .ne 9, 3) := by decide +kernel
theorem dX12_clause_213 : decode cX12_clause 213 = .ok (.aload_n 0, 1) := by decide +kernel
theorem dX12_clause_214 : decode cX12_clause 214 = .ok (.iconst 2, 1) := by decide +kernel
theorem dX12_clause_215 : decode cX12_clause 215 = .ok (.iload_n 3, 1) := by decide +kernel
theorem dX12_clause_216 : decode cX12_clause 216 = .ok (.invokevirtual 123, 3) := by decide +kernel
theorem dX12_clause_219 : decode cX12_clause 219 = .ok (.aload_n 0, 1) := by decide +kernel
theorem dX12_clause_220 : decode cX12_clause 220 = .ok (.getfield 34, 3) := by decide +kernel
theorem dX12_clause_223 : decode cX12_clause 223 = .ok (.aload_n 0, 1) := by decide +kernel
theorem dX12_clause_224 : decode cX12_clause 224 = .ok (.getfield 20, 3) := by decide +kernel
theorem dX12_clause_227 : decode cX12_clause 227 = .ok (.iconst 1, 1) := by decide +kernel
theorem dX12_clause_228 : decode cX12_clause 228 = .ok (.iaload, 1) := by decide +kernel
theorem dX12_clause_229 : decode cX12_clause 229 = .ok (.aaload, 1) := by decide +kernel
theorem dX12_clause_230 : decode cX12_clause 230 = .ok (.iconst 0, 1) := by decide +kernel
theorem dX12_clause_231 : decode cX12_clause 231 = .ok (.iload_n 2, 1) := by decide +kernel
theorem dX12_clause_232 : decode cX12_clause 232 = .ok (.iastore, 1) := by decide +kernel
theorem dX12_clause_233 : decode cX12_clause 233 = .ok (.aload_n 0, 1) := by decide +kernel
theorem dX12_clause_234 : decode cX12_clause 234 = .ok (.getfield 34, 3) := by decide +kernel
theorem dX12_clause_237 : decode cX12_clause 237 = .ok (.aload_n 0, 1) := by decide +kernel
theorem dX12_clause_238 : decode cX12_clause 238 = .ok (.getfield 20, 3) := by decide +kernel
theorem dX12_clause_241 : decode cX12_clause 241 = .ok (.iconst 1, 1) := by decide +kernel
theorem dX12_clause_242 : decode cX12_clause 242 = .ok (.iaload, 1) := by decide +kernel
theorem dX12_clause_243 : decode cX12_clause 243 = .ok (.aaload, 1) := by decide +kernel
theorem dX12_clause_244 : decode cX12_clause 244 = .ok (.iconst 1, 1) := by decide +kernel
theorem dX12_clause_245 : decode cX12_clause 245 = .ok (.iload 4, 2) := by decide +kernel
theorem dX12_clause_247 : decode cX12_clause 247 = .ok (.iastore, 1) := by decide +kernel
theorem dX12_clause_248 : decode cX12_clause 248 = .ok (.iload_n 1, 1) := by decide +kernel
theorem dX12_clause_249 : decode cX12_clause 249 = .ok (.iconst 2, 1) := by decide +kernel
theorem dX12_clause_250 : decode cX12_clause 250 = .ok (.if_icmp .ne 16, 3) := by decide +kernel
theorem dX12_clause_253 : decode cX12_clause 253 = .ok (.aload_n 0, 1) := by decide +kernel
theorem dX12_clause_254 : decode cX12_clause 254 = .ok (.getfield 20, 3) := by decide +kernel
theorem dX12_clause_257 : decode cX12_clause 257 = .ok (.iconst 2, 1) := by decide +kernel
theorem dX12_clause_258 : decode cX12_clause 258 = .ok (.aload_n 0, 1) := by decide +kernel
theorem dX12_clause_259 : decode cX12_clause 259 = .ok (.iconst 0, 1) := by decide +kernel
theorem dX12_clause_260 : decode cX12_clause 260 = .ok (.bipush 24, 2) := by decide +kernel
theorem dX12_clause_262 : decode cX12_clause 262 = .ok (.invokevirtual 159, 3) := by decide +kernel
theorem dX12_clause_265 : decode cX12_clause 265 = .ok (.iastore, 1) := by decide +kernel
theorem dX12_clause_266 : decode cX12_clause 266 = .ok (.aload_n 0, 1) := by decide +kernel
theorem dX12_clause_267 : decode cX12_clause 267 = .ok (.bipush 59, 2) := by decide +kernel
theorem dX12_clause_269 : decode cX12_clause 269 = .ok (.invokevirtual 163, 3) := by decide +kernel
theorem dX12_clause_272 : decode cX12_clause 272 = .ok (.aload_n 0, 1) := by decide +kernel
theorem dX12_clause_273 : decode cX12_clause 273 = .ok (.getfield 20, 3) := by decide +kernel
theorem dX12_clause_276 : decode cX12_clause 276 = .ok (.iload_n 1, 1) := by decide +kernel
theorem dX12_clause_277 : decode cX12_clause 277 = .ok (.dup2, 1) := by decide +kernel
theorem dX12_clause_278 : decode cX12_clause 278 = .ok (.iaload, 1) := by decide +kernel
theorem dX12_clause_279 : decode cX12_clause 279 = .ok (.aload_n 0, 1) := by decide +kernel
theorem dX12_clause_280 : decode cX12_clause 280 = .ok (.getfield 110, 3) := by decide +kernel
theorem dX12_clause_283 : decode cX12_clause 283 = .ok (.ifCond .ne 12, 3) := by decide +kernel
theorem dX12_clause_286 : decode cX12_clause 286 = .ok (.iload_n 1, 1) := by decide +kernel
theorem dX12_clause_287 : decode cX12_clause 287 = .ok (.iconst 2, 1) := by decide +kernel
theorem dX12_clause_288 : decode cX12_clause 288 = .ok (.if_icmp .ge 7, 3) := by decide +kernel
theorem dX12_clause_291 : decode cX12_clause 291 = .ok (.iconst 1, 1) := by decide +kernel
theorem dX12_clause_292 : decode cX12_clause 292 = .ok (.goto 4, 3) := by decide +kernel
theorem dX12_clause_295 : decode cX12_clause 295 = .ok (.iconst 0, 1) := by decide +kernel
theorem dX12_clause_296 : decode cX12_clause 296 = .ok (.iadd, 1) := by decide +kernel
theorem dX12_clause_297 : decode cX12_clause 297 = .ok (.iastore, 1) := by decide +kernel
theorem dX12_clause_298 : decode cX12_clause 298 = .ok (.return_, 1) := by decide +kernel
theorem dX12_hut_0 : decode cX12_hut 0 = .ok (.aload_n 0, 1) := by decide +kernel
theorem dX12_hut_1 : decode cX12_hut 1 = .ok (.iconst 0, 1) := by decide +kernel
theorem dX12_hut_2 : decode cX12_hut 2 = .ok (.putfield 94, 3) := by decide +kernel
theorem dX12_hut_5 : decode cX12_hut 5 = .ok (.aload_n 0, 1) := by decide +kernel
theorem dX12_hut_6 : decode cX12_hut 6 = .ok (.iload_n 1, 1) := by decide +kernel
theorem dX12_hut_7 : decode cX12_hut 7 = .ok (.iconst 0, 1) := by decide +kernel
theorem dX12_hut_8 : decode cX12_hut 8 = .ok (.aload_n 0, 1) := by decide +kernel
theorem dX12_hut_9 : decode cX12_hut 9 = .ok (.getfield 97, 3) := by decide +kernel
theorem dX12_hut_12 : decode cX12_hut 12 = .ok (.invokestatic 128, 3) := by decide +kernel
theorem dX12_hut_15 : decode cX12_hut 15 = .ok (.ifCond .ne 7, 3) := by decide +kernel
theorem dX12_hut_18 : decode cX12_hut 18 = .ok (.iconst 1, 1) := by decide +kernel
theorem dX12_hut_19 : decode cX12_hut 19 = .ok (.goto 4, 3) := by decide +kernel
theorem dX12_hut_22 : decode cX12_hut 22 = .ok (.iconst 0, 1) := by decide +kernel
theorem dX12_hut_23 : decode cX12_hut 23 = .ok (.iconst 1, 1) := by decide +kernel
theorem dX12_hut_24 : decode cX12_hut 24 = .ok (.iconst 1, 1) := by decide +kernel
theorem dX12_hut_25 : decode cX12_hut 25 = .ok (.invokevirtual 167, 3) := by decide +kernel
theorem dX12_hut_28 : decode cX12_hut 28 = .ok (.ifCond .eq 5, 3) := by decide +kernel
theorem dX12_hut_31 : decode cX12_hut 31 = .ok (.iconst 0, 1) := by decide +kernel
theorem dX12_hut_32 : decode cX12_hut 32 = .ok (.ireturn, 1) := by decide +kernel
theorem dX12_hut_33 : decode cX12_hut 33 = .ok (.aload_n 0, 1) := by decide +kernel
theorem dX12_hut_34 : decode cX12_hut 34 = .ok (.iload_n 1, 1) := by decide +kernel
theorem dX12_hut_35 : decode cX12_hut 35 = .ok (.invokevirtual 171, 3) := by decide +kernel
theorem dX12_hut_38 : decode cX12_hut 38 = .ok (.aload_n 0, 1) := by decide +kernel
theorem dX12_hut_39 : decode cX12_hut 39 = .ok (.invokevirtual 88, 3) := by decide +kernel
theorem dX12_hut_42 : decode cX12_hut 42 = .ok (.aload_n 0, 1) := by decide +kernel
theorem dX12_hut_43 : decode cX12_hut 43 = .ok (.getfield 110, 3) := by decide +kernel
theorem dX12_hut_46 : decode cX12_hut 46 = .ok (.ifCond .ne 25, 3) := by decide +kernel
theorem dX12_hut_49 : decode cX12_hut 49 = .ok (.aload_n 0, 1) := by decide +kernel
theorem dX12_hut_50 : decode cX12_hut 50 = .ok (.getfield 103, 3) := by decide +kernel
theorem dX12_hut_53 : decode cX12_hut 53 = .ok (.aload_n 0, 1) := by decide +kernel
theorem dX12_hut_54 : decode cX12_hut 54 = .ok (.getfield 100, 3) := by decide +kernel
theorem dX12_hut_57 : decode cX12_hut 57 = .ok (.if_icmp .ge 14, 3) := by decide +kernel
theorem dX12_hut_60 : decode cX12_hut 60 = .ok (.aload_n 0, 1) := by decide +kernel
theorem dX12_hut_61 : decode cX12_hut 61 = .ok (.invokevirtual 174, 3) := by decide +kernel
theorem dX12_hut_64 : decode cX12_hut 64 = .ok (.aload_n 0, 1) := by decide +kernel
theorem dX12_hut_65 : decode cX12_hut 65 = .ok (.invokevirtual 116, 3) := by decide +kernel
theorem dX12_hut_68 : decode cX12_hut 68 = .ok (.goto (-26), 3) := by decide +kernel
theorem dX12_hut_71 : decode cX12_hut 71 = .ok (.aload_n 0, 1) := by decide +kernel
theorem dX12_hut_72 : decode cX12_hut 72 = .ok (.getfield 110, 3) := by decide +kernel
theorem dX12_hut_75 : decode cX12_hut 75 = .ok (.ifCond .eq 8, 3) := by decide +kernel
theorem dX12_hut_78 : decode cX12_hut 78 = .ok (.aload_n 0, 1) := by decide +kernel
theorem dX12_hut_79 : decode cX12_hut 79 = .ok (.invokevirtual 177, 3) := by decide +kernel
theorem dX12_hut_82 : decode cX12_hut 82 = .ok (.ireturn, 1) := by decide +kernel
theorem dX12_hut_83 : decode cX12_hut 83 = .ok (.aload_n 0, 1) := by decide +kernel
theorem dX12_hut_84 : decode cX12_hut 84 = .ok (.iconst (-1), 1) := by decide +kernel
theorem dX12_hut_85 : decode cX12_hut 85 = .ok (.putfield 9, 3) := by decide +kernel
theorem dX12_hut_88 : decode cX12_hut 88 = .ok (.aload_n 0, 1) := by decide +kernel
theorem dX12_hut_89 : decode cX12_hut 89 = .ok (.invokevirtual 91, 3) := by decide +kernel
theorem dX12_hut_92 : decode cX12_hut 92 = .ok (.aload_n 0, 1) := by decide +kernel
theorem dX12_hut_93 : decode cX12_hut 93 = .ok (.getfield 23, 3) := by decide +kernel
theorem dX12_hut_96 : decode cX12_hut 96 = .ok (.iconst 0, 1) := by decide +kernel
theorem dX12_hut_97 : decode cX12_hut 97 = .ok (.iaload, 1) := by decide +kernel
theorem dX12_hut_98 : decode cX12_hut 98 = .ok (.ireturn, 1) := by decide +kernel
theorem dX12_lays_0 : decode cX12_lays 0 = .ok (.iconst 0, 1) := by decide +kernel
theorem dX12_lays_1 : decode cX12_lays 1 = .ok (.istore_n 3, 1) := by decide +kernel
theorem dX12_lays_2 : decode cX12_lays 2 = .ok (.iload_n 3, 1) := by decide +kernel
theorem dX12_lays_3 : decode cX12_lays 3 = .ok (.iload_n 2, 1) := by decide +kernel
theorem dX12_lays_4 : decode cX12_lays 4 = .ok (.if_icmp .ge 39, 3) := by decide +kernel
theorem dX12_lays_7 : decode cX12_lays 7 = .ok (.iconst 0, 1) := by decide +kernel
theorem dX12_lays_8 : decode cX12_lays 8 = .ok (.istore 4, 2) := by decide +kernel
theorem dX12_lays_10 : decode cX12_lays 10 = .ok (.iload 4, 2) := by decide +kernel
theorem dX12_lays_12 : decode cX12_lays 12 = .ok (.aload_n 1, 1) := by decide +kernel
theorem dX12_lays_13 : decode cX12_lays 13 = .ok (.iload_n 3, 1) := by decide +kernel
theorem dX12_lays_14 : decode cX12_lays 14 = .ok (.aaload, 1) := by decide +kernel
theorem dX12_lays_15 : decode cX12_lays 15 = .ok (.arraylength, 1) := by decide +kernel
theorem dX12_lays_16 : decode cX12_lays 16 = .ok (.if_icmp .ge 21, 3) := by decide +kernel
theorem dX12_lays_19 : decode cX12_lays 19 = .ok (.aload_n 1, 1) := by decide +kernel
theorem dX12_lays_20 : decode cX12_lays 20 = .ok (.iload_n 3, 1) := by decide +kernel
theorem dX12_lays_21 : decode cX12_lays 21 = .ok (.aaload, 1) := by decide +kernel
theorem dX12_lays_22 : decode cX12_lays 22 = .ok (.iload 4, 2) := by decide +kernel
theorem dX12_lays_24 : decode cX12_lays 24 = .ok (.aload_n 0, 1) := by decide +kernel
theorem dX12_lays_25 : decode cX12_lays 25 = .ok (.iload_n 3, 1) := by decide +kernel
theorem dX12_lays_26 : decode cX12_lays 26 = .ok (.aaload, 1) := by decide +kernel
theorem dX12_lays_27 : decode cX12_lays 27 = .ok (.iload 4, 2) := by decide +kernel
theorem dX12_lays_29 : decode cX12_lays 29 = .ok (.iaload, 1) := by decide +kernel
theorem dX12_lays_30 : decode cX12_lays 30 = .ok (.iastore, 1) := by decide +kernel
theorem dX12_lays_31 : decode cX12_lays 31 = .ok (.iinc 4 1, 3) := by decide +kernel
theorem dX12_lays_34 : decode cX12_lays 34 = .ok (.goto (-24), 3) := by decide +kernel
theorem dX12_lays_37 : decode cX12_lays 37 = .ok (.iinc 3 1, 3) := by decide +kernel
theorem dX12_lays_40 : decode cX12_lays 40 = .ok (.goto (-38), 3) := by decide +kernel
theorem dX12_lays_43 : decode cX12_lays 43 = .ok (.return_, 1) := by decide +kernel
theorem dX12_copies_0 : decode cX12_copies 0 = .ok (.iconst 0, 1) := by decide +kernel
theorem dX12_copies_1 : decode cX12_copies 1 = .ok (.istore_n 2, 1) := by decide +kernel
theorem dX12_copies_2 : decode cX12_copies 2 = .ok (.iload_n 2, 1) := by decide +kernel
theorem dX12_copies_3 : decode cX12_copies 3 = .ok (.sipush 419, 3) := by decide +kernel
theorem dX12_copies_6 : decode cX12_copies 6 = .ok (.if_icmp .ge 15, 3) := by decide +kernel
theorem dX12_copies_9 : decode cX12_copies 9 = .ok (.aload_n 1, 1) := by decide +kernel
theorem dX12_copies_10 : decode cX12_copies 10 = .ok (.iload_n 2, 1) := by decide +kernel
theorem dX12_copies_11 : decode cX12_copies 11 = .ok (.aload_n 0, 1) := by decide +kernel
theorem dX12_copies_12 : decode cX12_copies 12 = .ok (.iload_n 2, 1) := by decide +kernel
theorem dX12_copies_13 : decode cX12_copies 13 = .ok (.iaload, 1) := by decide +kernel
theorem dX12_copies_14 : decode cX12_copies 14 = .ok (.iastore, 1) := by decide +kernel
theorem dX12_copies_15 : decode cX12_copies 15 = .ok (.iinc 2 1, 3) := by decide +kernel
theorem dX12_copies_18 : decode cX12_copies 18 = .ok (.goto (-16), 3) := by decide +kernel
theorem dX12_copies_21 : decode cX12_copies 21 = .ok (.return_, 1) := by decide +kernel
theorem dX12_beginsAnew_0 : decode cX12_beginsAnew 0 = .ok (.iconst 0, 1) := by decide +kernel
theorem dX12_beginsAnew_1 : decode cX12_beginsAnew 1 = .ok (.istore_n 1, 1) := by decide +kernel
theorem dX12_beginsAnew_2 : decode cX12_beginsAnew 2 = .ok (.iload_n 1, 1) := by decide +kernel
theorem dX12_beginsAnew_3 : decode cX12_beginsAnew 3 = .ok (.iconst 3, 1) := by decide +kernel
theorem dX12_beginsAnew_4 : decode cX12_beginsAnew 4 = .ok (.if_icmp .ge 21, 3) := by decide +kernel
theorem dX12_beginsAnew_7 : decode cX12_beginsAnew 7 = .ok (.aload_n 0, 1) := by decide +kernel
theorem dX12_beginsAnew_8 : decode cX12_beginsAnew 8 = .ok (.getfield 23, 3) := by decide +kernel
theorem dX12_beginsAnew_11 : decode cX12_beginsAnew 11 = .ok (.iload_n 1, 1) := by decide +kernel
theorem dX12_beginsAnew_12 : decode cX12_beginsAnew 12 = .ok (.aload_n 0, 1) := by decide +kernel
theorem dX12_beginsAnew_13 : decode cX12_beginsAnew 13 = .ok (.getfield 20, 3) := by decide +kernel
theorem dX12_beginsAnew_16 : decode cX12_beginsAnew 16 = .ok (.iload_n 1, 1) := by decide +kernel
theorem dX12_beginsAnew_17 : decode cX12_beginsAnew 17 = .ok (.iaload, 1) := by decide +kernel
theorem dX12_beginsAnew_18 : decode cX12_beginsAnew 18 = .ok (.iastore, 1) := by decide +kernel
theorem dX12_beginsAnew_19 : decode cX12_beginsAnew 19 = .ok (.iinc 1 1, 3) := by decide +kernel
theorem dX12_beginsAnew_22 : decode cX12_beginsAnew 22 = .ok (.goto (-20), 3) := by decide +kernel
theorem dX12_beginsAnew_25 : decode cX12_beginsAnew 25 = .ok (.aload_n 0, 1) := by decide +kernel
theorem dX12_beginsAnew_26 : decode cX12_beginsAnew 26 = .ok (.getfield 28, 3) := by decide +kernel
theorem dX12_beginsAnew_29 : decode cX12_beginsAnew 29 = .ok (.aload_n 0, 1) := by decide +kernel
theorem dX12_beginsAnew_30 : decode cX12_beginsAnew 30 = .ok (.getfield 31, 3) := by decide +kernel
theorem dX12_beginsAnew_33 : decode cX12_beginsAnew 33 = .ok (.aload_n 0, 1) := by decide +kernel
theorem dX12_beginsAnew_34 : decode cX12_beginsAnew 34 = .ok (.getfield 23, 3) := by decide +kernel
theorem dX12_beginsAnew_37 : decode cX12_beginsAnew 37 = .ok (.iconst 0, 1) := by decide +kernel
theorem dX12_beginsAnew_38 : decode cX12_beginsAnew 38 = .ok (.iaload, 1) := by decide +kernel
theorem dX12_beginsAnew_39 : decode cX12_beginsAnew 39 = .ok (.invokestatic 180, 3) := by decide +kernel
theorem dX12_beginsAnew_42 : decode cX12_beginsAnew 42 = .ok (.aload_n 0, 1) := by decide +kernel
theorem dX12_beginsAnew_43 : decode cX12_beginsAnew 43 = .ok (.getfield 34, 3) := by decide +kernel
theorem dX12_beginsAnew_46 : decode cX12_beginsAnew 46 = .ok (.aload_n 0, 1) := by decide +kernel
theorem dX12_beginsAnew_47 : decode cX12_beginsAnew 47 = .ok (.getfield 37, 3) := by decide +kernel
theorem dX12_beginsAnew_50 : decode cX12_beginsAnew 50 = .ok (.aload_n 0, 1) := by decide +kernel
theorem dX12_beginsAnew_51 : decode cX12_beginsAnew 51 = .ok (.getfield 23, 3) := by decide +kernel
theorem dX12_beginsAnew_54 : decode cX12_beginsAnew 54 = .ok (.iconst 1, 1) := by decide +kernel
theorem dX12_beginsAnew_55 : decode cX12_beginsAnew 55 = .ok (.iaload, 1) := by decide +kernel
theorem dX12_beginsAnew_56 : decode cX12_beginsAnew 56 = .ok (.invokestatic 180, 3) := by decide +kernel
theorem dX12_beginsAnew_59 : decode cX12_beginsAnew 59 = .ok (.iconst 0, 1) := by decide +kernel
theorem dX12_beginsAnew_60 : decode cX12_beginsAnew 60 = .ok (.istore_n 1, 1) := by decide +kernel
theorem dX12_beginsAnew_61 : decode cX12_beginsAnew 61 = .ok (.iload_n 1, 1) := by decide +kernel
theorem dX12_beginsAnew_62 : decode cX12_beginsAnew 62 = .ok (.sipush 419, 3) := by decide +kernel
theorem dX12_beginsAnew_65 : decode cX12_beginsAnew 65 = .ok (.if_icmp .ge 26, 3) := by decide +kernel
theorem dX12_beginsAnew_68 : decode cX12_beginsAnew 68 = .ok (.aload_n 0, 1) := by decide +kernel
theorem dX12_beginsAnew_69 : decode cX12_beginsAnew 69 = .ok (.getfield 67, 3) := by decide +kernel
theorem dX12_beginsAnew_72 : decode cX12_beginsAnew 72 = .ok (.iload_n 1, 1) := by decide +kernel
theorem dX12_beginsAnew_73 : decode cX12_beginsAnew 73 = .ok (.iload_n 1, 1) := by decide +kernel
theorem dX12_beginsAnew_74 : decode cX12_beginsAnew 74 = .ok (.bipush 35, 2) := by decide +kernel
theorem dX12_beginsAnew_76 : decode cX12_beginsAnew 76 = .ok (.if_icmp .ge 7, 3) := by decide +kernel
theorem dX12_beginsAnew_79 : decode cX12_beginsAnew 79 = .ok (.iconst 0, 1) := by decide +kernel
theorem dX12_beginsAnew_80 : decode cX12_beginsAnew 80 = .ok (.goto 4, 3) := by decide +kernel
theorem dX12_beginsAnew_83 : decode cX12_beginsAnew 83 = .ok (.iconst (-1), 1) := by decide +kernel
theorem dX12_beginsAnew_84 : decode cX12_beginsAnew 84 = .ok (.iastore, 1) := by decide +kernel
theorem dX12_beginsAnew_85 : decode cX12_beginsAnew 85 = .ok (.iinc 1 1, 3) := by decide +kernel
theorem dX12_beginsAnew_88 : decode cX12_beginsAnew 88 = .ok (.goto (-27), 3) := by decide +kernel
theorem dX12_beginsAnew_91 : decode cX12_beginsAnew 91 = .ok (.iconst 0, 1) := by decide +kernel
theorem dX12_beginsAnew_92 : decode cX12_beginsAnew 92 = .ok (.istore_n 1, 1) := by decide +kernel
theorem dX12_beginsAnew_93 : decode cX12_beginsAnew 93 = .ok (.iload_n 1, 1) := by decide +kernel
theorem dX12_beginsAnew_94 : decode cX12_beginsAnew 94 = .ok (.bipush 8, 2) := by decide +kernel
theorem dX12_beginsAnew_96 : decode cX12_beginsAnew 96 = .ok (.if_icmp .ge 99, 3) := by decide +kernel
theorem dX12_beginsAnew_99 : decode cX12_beginsAnew 99 = .ok (.aload_n 0, 1) := by decide +kernel
theorem dX12_beginsAnew_100 : decode cX12_beginsAnew 100 = .ok (.getfield 67, 3) := by decide +kernel
theorem dX12_beginsAnew_103 : decode cX12_beginsAnew 103 = .ok (.iconst 0, 1) := by decide +kernel
theorem dX12_beginsAnew_104 : decode cX12_beginsAnew 104 = .ok (.iload_n 1, 1) := by decide +kernel
theorem dX12_beginsAnew_105 : decode cX12_beginsAnew 105 = .ok (.iadd, 1) := by decide +kernel
theorem dX12_beginsAnew_106 : decode cX12_beginsAnew 106 = .ok (.iload_n 1, 1) := by decide +kernel
theorem dX12_beginsAnew_107 : decode cX12_beginsAnew 107 = .ok (.aload_n 0, 1) := by decide +kernel
theorem dX12_beginsAnew_108 : decode cX12_beginsAnew 108 = .ok (.getfield 23, 3) := by decide +kernel
theorem dX12_beginsAnew_111 : decode cX12_beginsAnew 111 = .ok (.iconst 0, 1) := by decide +kernel
theorem dX12_beginsAnew_112 : decode cX12_beginsAnew 112 = .ok (.iaload, 1) := by decide +kernel
theorem dX12_beginsAnew_113 : decode cX12_beginsAnew 113 = .ok (.if_icmp .ge 14, 3) := by decide +kernel
theorem dX12_beginsAnew_116 : decode cX12_beginsAnew 116 = .ok (.aload_n 0, 1) := by decide +kernel
theorem dX12_beginsAnew_117 : decode cX12_beginsAnew 117 = .ok (.getfield 31, 3) := by decide +kernel
theorem dX12_beginsAnew_120 : decode cX12_beginsAnew 120 = .ok (.iload_n 1, 1) := by decide +kernel
theorem dX12_beginsAnew_121 : decode cX12_beginsAnew 121 = .ok (.aaload, 1) := by decide +kernel
theorem dX12_beginsAnew_122 : decode cX12_beginsAnew 122 = .ok (.iconst 1, 1) := by decide +kernel
theorem dX12_beginsAnew_123 : decode cX12_beginsAnew 123 = .ok (.iaload, 1) := by decide +kernel
theorem dX12_beginsAnew_124 : decode cX12_beginsAnew 124 = .ok (.goto 4, 3) := by decide +kernel
theorem dX12_beginsAnew_127 : decode cX12_beginsAnew 127 = .ok (.iconst 0, 1) := by decide +kernel
theorem dX12_beginsAnew_128 : decode cX12_beginsAnew 128 = .ok (.iastore, 1) := by decide +kernel
theorem dX12_beginsAnew_129 : decode cX12_beginsAnew 129 = .ok (.aload_n 0, 1) := by decide +kernel
theorem dX12_beginsAnew_130 : decode cX12_beginsAnew 130 = .ok (.getfield 67, 3) := by decide +kernel
theorem dX12_beginsAnew_133 : decode cX12_beginsAnew 133 = .ok (.bipush 8, 2) := by decide +kernel
theorem dX12_beginsAnew_135 : decode cX12_beginsAnew 135 = .ok (.iload_n 1, 1) := by decide +kernel
theorem dX12_beginsAnew_136 : decode cX12_beginsAnew 136 = .ok (.iadd, 1) := by decide +kernel
theorem dX12_beginsAnew_137 : decode cX12_beginsAnew 137 = .ok (.iload_n 1, 1) := by decide +kernel
theorem dX12_beginsAnew_138 : decode cX12_beginsAnew 138 = .ok (.aload_n 0, 1) := by decide +kernel
theorem dX12_beginsAnew_139 : decode cX12_beginsAnew 139 = .ok (.getfield 23, 3) := by decide +kernel
theorem dX12_beginsAnew_142 : decode cX12_beginsAnew 142 = .ok (.iconst 0, 1) := by decide +kernel
theorem dX12_beginsAnew_143 : decode cX12_beginsAnew 143 = .ok (.iaload, 1) := by decide +kernel
theorem dX12_beginsAnew_144 : decode cX12_beginsAnew 144 = .ok (.if_icmp .ge 14, 3) := by decide +kernel
theorem dX12_beginsAnew_147 : decode cX12_beginsAnew 147 = .ok (.aload_n 0, 1) := by decide +kernel
theorem dX12_beginsAnew_148 : decode cX12_beginsAnew 148 = .ok (.getfield 31, 3) := by decide +kernel
theorem dX12_beginsAnew_151 : decode cX12_beginsAnew 151 = .ok (.iload_n 1, 1) := by decide +kernel
theorem dX12_beginsAnew_152 : decode cX12_beginsAnew 152 = .ok (.aaload, 1) := by decide +kernel
theorem dX12_beginsAnew_153 : decode cX12_beginsAnew 153 = .ok (.iconst 2, 1) := by decide +kernel
theorem dX12_beginsAnew_154 : decode cX12_beginsAnew 154 = .ok (.iaload, 1) := by decide +kernel
theorem dX12_beginsAnew_155 : decode cX12_beginsAnew 155 = .ok (.goto 4, 3) := by decide +kernel
theorem dX12_beginsAnew_158 : decode cX12_beginsAnew 158 = .ok (.iconst 0, 1) := by decide +kernel
theorem dX12_beginsAnew_159 : decode cX12_beginsAnew 159 = .ok (.iastore, 1) := by decide +kernel
theorem dX12_beginsAnew_160 : decode cX12_beginsAnew 160 = .ok (.aload_n 0, 1) := by decide +kernel
theorem dX12_beginsAnew_161 : decode cX12_beginsAnew 161 = .ok (.getfield 67, 3) := by decide +kernel
theorem dX12_beginsAnew_164 : decode cX12_beginsAnew 164 = .ok (.bipush 16, 2) := by decide +kernel
theorem dX12_beginsAnew_166 : decode cX12_beginsAnew 166 = .ok (.iload_n 1, 1) := by decide +kernel
theorem dX12_beginsAnew_167 : decode cX12_beginsAnew 167 = .ok (.iadd, 1) := by decide +kernel
theorem dX12_beginsAnew_168 : decode cX12_beginsAnew 168 = .ok (.iload_n 1, 1) := by decide +kernel
theorem dX12_beginsAnew_169 : decode cX12_beginsAnew 169 = .ok (.aload_n 0, 1) := by decide +kernel
theorem dX12_beginsAnew_170 : decode cX12_beginsAnew 170 = .ok (.getfield 23, 3) := by decide +kernel
theorem dX12_beginsAnew_173 : decode cX12_beginsAnew 173 = .ok (.iconst 0, 1) := by decide +kernel
theorem dX12_beginsAnew_174 : decode cX12_beginsAnew 174 = .ok (.iaload, 1) := by decide +kernel
theorem dX12_beginsAnew_175 : decode cX12_beginsAnew 175 = .ok (.if_icmp .ge 12, 3) := by decide +kernel
theorem dX12_beginsAnew_178 : decode cX12_beginsAnew 178 = .ok (.aload_n 0, 1) := by decide +kernel
theorem dX12_beginsAnew_179 : decode cX12_beginsAnew 179 = .ok (.getfield 23, 3) := by decide +kernel
theorem dX12_beginsAnew_182 : decode cX12_beginsAnew 182 = .ok (.iconst 2, 1) := by decide +kernel
theorem dX12_beginsAnew_183 : decode cX12_beginsAnew 183 = .ok (.iaload, 1) := by decide +kernel
theorem dX12_beginsAnew_184 : decode cX12_beginsAnew 184 = .ok (.goto 4, 3) := by decide +kernel
theorem dX12_beginsAnew_187 : decode cX12_beginsAnew 187 = .ok (.iconst (-1), 1) := by decide +kernel
theorem dX12_beginsAnew_188 : decode cX12_beginsAnew 188 = .ok (.iastore, 1) := by decide +kernel
theorem dX12_beginsAnew_189 : decode cX12_beginsAnew 189 = .ok (.iinc 1 1, 3) := by decide +kernel
theorem dX12_beginsAnew_192 : decode cX12_beginsAnew 192 = .ok (.goto (-99), 3) := by decide +kernel
theorem dX12_beginsAnew_195 : decode cX12_beginsAnew 195 = .ok (.aload_n 0, 1) := by decide +kernel
theorem dX12_beginsAnew_196 : decode cX12_beginsAnew 196 = .ok (.iconst 0, 1) := by decide +kernel
theorem dX12_beginsAnew_197 : decode cX12_beginsAnew 197 = .ok (.putfield 184, 3) := by decide +kernel
theorem dX12_beginsAnew_200 : decode cX12_beginsAnew 200 = .ok (.aload_n 0, 1) := by decide +kernel
theorem dX12_beginsAnew_201 : decode cX12_beginsAnew 201 = .ok (.iconst 0, 1) := by decide +kernel
theorem dX12_beginsAnew_202 : decode cX12_beginsAnew 202 = .ok (.putfield 187, 3) := by decide +kernel
theorem dX12_beginsAnew_205 : decode cX12_beginsAnew 205 = .ok (.aload_n 0, 1) := by decide +kernel
theorem dX12_beginsAnew_206 : decode cX12_beginsAnew 206 = .ok (.iconst 0, 1) := by decide +kernel
theorem dX12_beginsAnew_207 : decode cX12_beginsAnew 207 = .ok (.putfield 190, 3) := by decide +kernel
theorem dX12_beginsAnew_210 : decode cX12_beginsAnew 210 = .ok (.aload_n 0, 1) := by decide +kernel
theorem dX12_beginsAnew_211 : decode cX12_beginsAnew 211 = .ok (.iconst 0, 1) := by decide +kernel
theorem dX12_beginsAnew_212 : decode cX12_beginsAnew 212 = .ok (.putfield 193, 3) := by decide +kernel
theorem dX12_beginsAnew_215 : decode cX12_beginsAnew 215 = .ok (.aload_n 0, 1) := by decide +kernel
theorem dX12_beginsAnew_216 : decode cX12_beginsAnew 216 = .ok (.iconst 0, 1) := by decide +kernel
theorem dX12_beginsAnew_217 : decode cX12_beginsAnew 217 = .ok (.putfield 196, 3) := by decide +kernel
theorem dX12_beginsAnew_220 : decode cX12_beginsAnew 220 = .ok (.aload_n 0, 1) := by decide +kernel
theorem dX12_beginsAnew_221 : decode cX12_beginsAnew 221 = .ok (.iconst 0, 1) := by decide +kernel
theorem dX12_beginsAnew_222 : decode cX12_beginsAnew 222 = .ok (.putfield 199, 3) := by decide +kernel
theorem dX12_beginsAnew_225 : decode cX12_beginsAnew 225 = .ok (.return_, 1) := by decide +kernel
theorem dX12_notes_0 : decode cX12_notes 0 = .ok (.aload_n 0, 1) := by decide +kernel
theorem dX12_notes_1 : decode cX12_notes 1 = .ok (.getfield 110, 3) := by decide +kernel
theorem dX12_notes_4 : decode cX12_notes 4 = .ok (.ifCond .eq 4, 3) := by decide +kernel
theorem dX12_notes_7 : decode cX12_notes 7 = .ok (.return_, 1) := by decide +kernel
theorem dX12_notes_8 : decode cX12_notes 8 = .ok (.aload_n 0, 1) := by decide +kernel
theorem dX12_notes_9 : decode cX12_notes 9 = .ok (.getfield 43, 3) := by decide +kernel
theorem dX12_notes_12 : decode cX12_notes 12 = .ok (.aload_n 0, 1) := by decide +kernel
theorem dX12_notes_13 : decode cX12_notes 13 = .ok (.getfield 202, 3) := by decide +kernel
theorem dX12_notes_16 : decode cX12_notes 16 = .ok (.aaload, 1) := by decide +kernel
theorem dX12_notes_17 : decode cX12_notes 17 = .ok (.iconst 0, 1) := by decide +kernel
theorem dX12_notes_18 : decode cX12_notes 18 = .ok (.iload_n 1, 1) := by decide +kernel
theorem dX12_notes_19 : decode cX12_notes 19 = .ok (.iastore, 1) := by decide +kernel
theorem dX12_notes_20 : decode cX12_notes 20 = .ok (.aload_n 0, 1) := by decide +kernel
theorem dX12_notes_21 : decode cX12_notes 21 = .ok (.getfield 43, 3) := by decide +kernel
theorem dX12_notes_24 : decode cX12_notes 24 = .ok (.aload_n 0, 1) := by decide +kernel
theorem dX12_notes_25 : decode cX12_notes 25 = .ok (.getfield 202, 3) := by decide +kernel
theorem dX12_notes_28 : decode cX12_notes 28 = .ok (.aaload, 1) := by decide +kernel
theorem dX12_notes_29 : decode cX12_notes 29 = .ok (.iconst 1, 1) := by decide +kernel
theorem dX12_notes_30 : decode cX12_notes 30 = .ok (.iload_n 2, 1) := by decide +kernel
theorem dX12_notes_31 : decode cX12_notes 31 = .ok (.iastore, 1) := by decide +kernel
theorem dX12_notes_32 : decode cX12_notes 32 = .ok (.aload_n 0, 1) := by decide +kernel
theorem dX12_notes_33 : decode cX12_notes 33 = .ok (.dup, 1) := by decide +kernel
theorem dX12_notes_34 : decode cX12_notes 34 = .ok (.getfield 202, 3) := by decide +kernel
theorem dX12_notes_37 : decode cX12_notes 37 = .ok (.iconst 1, 1) := by decide +kernel
theorem dX12_notes_38 : decode cX12_notes 38 = .ok (.iadd, 1) := by decide +kernel
theorem dX12_notes_39 : decode cX12_notes 39 = .ok (.putfield 202, 3) := by decide +kernel
theorem dX12_notes_42 : decode cX12_notes 42 = .ok (.return_, 1) := by decide +kernel
theorem dX12_opensOne_0 : decode cX12_opensOne 0 = .ok (.aload_n 0, 1) := by decide +kernel
theorem dX12_opensOne_1 : decode cX12_opensOne 1 = .ok (.getfield 110, 3) := by decide +kernel
theorem dX12_opensOne_4 : decode cX12_opensOne 4 = .ok (.ifCond .ne 24, 3) := by decide +kernel
theorem dX12_opensOne_7 : decode cX12_opensOne 7 = .ok (.aload_n 0, 1) := by decide +kernel
theorem dX12_opensOne_8 : decode cX12_opensOne 8 = .ok (.getfield 153, 3) := by decide +kernel
theorem dX12_opensOne_11 : decode cX12_opensOne 11 = .ok (.bipush 6, 2) := by decide +kernel
theorem dX12_opensOne_13 : decode cX12_opensOne 13 = .ok (.if_icmp .ne 15, 3) := by decide +kernel
theorem dX12_opensOne_16 : decode cX12_opensOne 16 = .ok (.aload_n 0, 1) := by decide +kernel
theorem dX12_opensOne_17 : decode cX12_opensOne 17 = .ok (.iconst 3, 1) := by decide +kernel
theorem dX12_opensOne_18 : decode cX12_opensOne 18 = .ok (.aload_n 0, 1) := by decide +kernel
theorem dX12_opensOne_19 : decode cX12_opensOne 19 = .ok (.getfield 103, 3) := by decide +kernel
theorem dX12_opensOne_22 : decode cX12_opensOne 22 = .ok (.invokevirtual 123, 3) := by decide +kernel
theorem dX12_opensOne_25 : decode cX12_opensOne 25 = .ok (.goto 20, 3) := by decide +kernel
theorem dX12_opensOne_28 : decode cX12_opensOne 28 = .ok (.aload_n 0, 1) := by decide +kernel
theorem dX12_opensOne_29 : decode cX12_opensOne 29 = .ok (.getfield 110, 3) := by decide +kernel
theorem dX12_opensOne_32 : decode cX12_opensOne 32 = .ok (.ifCond .ne 13, 3) := by decide +kernel
theorem dX12_opensOne_35 : decode cX12_opensOne 35 = .ok (.aload_n 0, 1) := by decide +kernel
theorem dX12_opensOne_36 : decode cX12_opensOne 36 = .ok (.dup, 1) := by decide +kernel
theorem dX12_opensOne_37 : decode cX12_opensOne 37 = .ok (.getfield 153, 3) := by decide +kernel
theorem dX12_opensOne_40 : decode cX12_opensOne 40 = .ok (.iconst 1, 1) := by decide +kernel
theorem dX12_opensOne_41 : decode cX12_opensOne 41 = .ok (.iadd, 1) := by decide +kernel
theorem dX12_opensOne_42 : decode cX12_opensOne 42 = .ok (.putfield 153, 3) := by decide +kernel
theorem dX12_opensOne_45 : decode cX12_opensOne 45 = .ok (.aload_n 0, 1) := by decide +kernel
theorem dX12_opensOne_46 : decode cX12_opensOne 46 = .ok (.getfield 110, 3) := by decide +kernel
theorem dX12_opensOne_49 : decode cX12_opensOne 49 = .ok (.ifCond .ne 7, 3) := by decide +kernel
theorem dX12_opensOne_52 : decode cX12_opensOne 52 = .ok (.iconst 1, 1) := by decide +kernel
theorem dX12_opensOne_53 : decode cX12_opensOne 53 = .ok (.goto 4, 3) := by decide +kernel
theorem dX12_opensOne_56 : decode cX12_opensOne 56 = .ok (.iconst 0, 1) := by decide +kernel
theorem dX12_opensOne_57 : decode cX12_opensOne 57 = .ok (.ireturn, 1) := by decide +kernel
theorem dX12_sum_0 : decode cX12_sum 0 = .ok (.aload_n 0, 1) := by decide +kernel
theorem dX12_sum_1 : decode cX12_sum 1 = .ok (.invokevirtual 205, 3) := by decide +kernel
theorem dX12_sum_4 : decode cX12_sum 4 = .ok (.aload_n 0, 1) := by decide +kernel
theorem dX12_sum_5 : decode cX12_sum 5 = .ok (.getfield 110, 3) := by decide +kernel
theorem dX12_sum_8 : decode cX12_sum 8 = .ok (.ifCond .ne 50, 3) := by decide +kernel
theorem dX12_sum_11 : decode cX12_sum 11 = .ok (.aload_n 0, 1) := by decide +kernel
theorem dX12_sum_12 : decode cX12_sum 12 = .ok (.bipush 43, 2) := by decide +kernel
theorem dX12_sum_14 : decode cX12_sum 14 = .ok (.invokevirtual 208, 3) := by decide +kernel
theorem dX12_sum_17 : decode cX12_sum 17 = .ok (.ifCond .eq 7, 3) := by decide +kernel
theorem dX12_sum_20 : decode cX12_sum 20 = .ok (.iconst 2, 1) := by decide +kernel
theorem dX12_sum_21 : decode cX12_sum 21 = .ok (.goto 17, 3) := by decide +kernel
theorem dX12_sum_24 : decode cX12_sum 24 = .ok (.aload_n 0, 1) := by decide +kernel
theorem dX12_sum_25 : decode cX12_sum 25 = .ok (.bipush 45, 2) := by decide +kernel
theorem dX12_sum_27 : decode cX12_sum 27 = .ok (.invokevirtual 208, 3) := by decide +kernel
theorem dX12_sum_30 : decode cX12_sum 30 = .ok (.ifCond .eq 7, 3) := by decide +kernel
theorem dX12_sum_33 : decode cX12_sum 33 = .ok (.iconst 3, 1) := by decide +kernel
theorem dX12_sum_34 : decode cX12_sum 34 = .ok (.goto 4, 3) := by decide +kernel
theorem dX12_sum_37 : decode cX12_sum 37 = .ok (.iconst (-1), 1) := by decide +kernel
theorem dX12_sum_38 : decode cX12_sum 38 = .ok (.istore_n 1, 1) := by decide +kernel
theorem dX12_sum_39 : decode cX12_sum 39 = .ok (.iload_n 1, 1) := by decide +kernel
theorem dX12_sum_40 : decode cX12_sum 40 = .ok (.iconst (-1), 1) := by decide +kernel
theorem dX12_sum_41 : decode cX12_sum 41 = .ok (.if_icmp .ne 4, 3) := by decide +kernel
theorem dX12_sum_44 : decode cX12_sum 44 = .ok (.return_, 1) := by decide +kernel
theorem dX12_sum_45 : decode cX12_sum 45 = .ok (.aload_n 0, 1) := by decide +kernel
theorem dX12_sum_46 : decode cX12_sum 46 = .ok (.invokevirtual 205, 3) := by decide +kernel
theorem dX12_sum_49 : decode cX12_sum 49 = .ok (.aload_n 0, 1) := by decide +kernel
theorem dX12_sum_50 : decode cX12_sum 50 = .ok (.iload_n 1, 1) := by decide +kernel
theorem dX12_sum_51 : decode cX12_sum 51 = .ok (.iconst 0, 1) := by decide +kernel
theorem dX12_sum_52 : decode cX12_sum 52 = .ok (.invokevirtual 211, 3) := by decide +kernel
theorem dX12_sum_55 : decode cX12_sum 55 = .ok (.goto (-51), 3) := by decide +kernel
theorem dX12_sum_58 : decode cX12_sum 58 = .ok (.return_, 1) := by decide +kernel
theorem dX12_product_0 : decode cX12_product 0 = .ok (.aload_n 0, 1) := by decide +kernel
theorem dX12_product_1 : decode cX12_product 1 = .ok (.invokevirtual 214, 3) := by decide +kernel
theorem dX12_product_4 : decode cX12_product 4 = .ok (.aload_n 0, 1) := by decide +kernel
theorem dX12_product_5 : decode cX12_product 5 = .ok (.getfield 110, 3) := by decide +kernel
theorem dX12_product_8 : decode cX12_product 8 = .ok (.ifCond .ne 64, 3) := by decide +kernel
theorem dX12_product_11 : decode cX12_product 11 = .ok (.aload_n 0, 1) := by decide +kernel
theorem dX12_product_12 : decode cX12_product 12 = .ok (.bipush 42, 2) := by decide +kernel
theorem dX12_product_14 : decode cX12_product 14 = .ok (.invokevirtual 208, 3) := by decide +kernel
theorem dX12_product_17 : decode cX12_product 17 = .ok (.ifCond .eq 7, 3) := by decide +kernel
theorem dX12_product_20 : decode cX12_product 20 = .ok (.iconst 4, 1) := by decide +kernel
theorem dX12_product_21 : decode cX12_product 21 = .ok (.goto 31, 3) := by decide +kernel
theorem dX12_product_24 : decode cX12_product 24 = .ok (.aload_n 0, 1) := by decide +kernel
theorem dX12_product_25 : decode cX12_product 25 = .ok (.bipush 47, 2) := by decide +kernel
theorem dX12_product_27 : decode cX12_product 27 = .ok (.invokevirtual 208, 3) := by decide +kernel
theorem dX12_product_30 : decode cX12_product 30 = .ok (.ifCond .eq 7, 3) := by decide +kernel
theorem dX12_product_33 : decode cX12_product 33 = .ok (.iconst 5, 1) := by decide +kernel
theorem dX12_product_34 : decode cX12_product 34 = .ok (.goto 18, 3) := by decide +kernel
theorem dX12_product_37 : decode cX12_product 37 = .ok (.aload_n 0, 1) := by decide +kernel
theorem dX12_product_38 : decode cX12_product 38 = .ok (.bipush 37, 2) := by decide +kernel
theorem dX12_product_40 : decode cX12_product 40 = .ok (.invokevirtual 208, 3) := by decide +kernel
theorem dX12_product_43 : decode cX12_product 43 = .ok (.ifCond .eq 8, 3) := by decide +kernel
theorem dX12_product_46 : decode cX12_product 46 = .ok (.bipush 6, 2) := by decide +kernel
theorem dX12_product_48 : decode cX12_product 48 = .ok (.goto 4, 3) := by decide +kernel
theorem dX12_product_51 : decode cX12_product 51 = .ok (.iconst (-1), 1) := by decide +kernel
theorem dX12_product_52 : decode cX12_product 52 = .ok (.istore_n 1, 1) := by decide +kernel
theorem dX12_product_53 : decode cX12_product 53 = .ok (.iload_n 1, 1) := by decide +kernel
theorem dX12_product_54 : decode cX12_product 54 = .ok (.iconst (-1), 1) := by decide +kernel
theorem dX12_product_55 : decode cX12_product 55 = .ok (.if_icmp .ne 4, 3) := by decide +kernel
theorem dX12_product_58 : decode cX12_product 58 = .ok (.return_, 1) := by decide +kernel
theorem dX12_product_59 : decode cX12_product 59 = .ok (.aload_n 0, 1) := by decide +kernel
theorem dX12_product_60 : decode cX12_product 60 = .ok (.invokevirtual 214, 3) := by decide +kernel
theorem dX12_product_63 : decode cX12_product 63 = .ok (.aload_n 0, 1) := by decide +kernel
theorem dX12_product_64 : decode cX12_product 64 = .ok (.iload_n 1, 1) := by decide +kernel
theorem dX12_product_65 : decode cX12_product 65 = .ok (.iconst 0, 1) := by decide +kernel
theorem dX12_product_66 : decode cX12_product 66 = .ok (.invokevirtual 211, 3) := by decide +kernel
theorem dX12_product_69 : decode cX12_product 69 = .ok (.goto (-65), 3) := by decide +kernel
theorem dX12_product_72 : decode cX12_product 72 = .ok (.return_, 1) := by decide +kernel
theorem dX12_takesTwo_0 : decode cX12_takesTwo 0 = .ok (.aload_n 0, 1) := by decide +kernel
theorem dX12_takesTwo_1 : decode cX12_takesTwo 1 = .ok (.getfield 110, 3) := by decide +kernel
theorem dX12_takesTwo_4 : decode cX12_takesTwo 4 = .ok (.ifCond .ne 20, 3) := by decide +kernel
theorem dX12_takesTwo_7 : decode cX12_takesTwo 7 = .ok (.aload_n 0, 1) := by decide +kernel
theorem dX12_takesTwo_8 : decode cX12_takesTwo 8 = .ok (.invokevirtual 135, 3) := by decide +kernel
theorem dX12_takesTwo_11 : decode cX12_takesTwo 11 = .ok (.bipush 27, 2) := by decide +kernel
theorem dX12_takesTwo_13 : decode cX12_takesTwo 13 = .ok (.iload_n 1, 1) := by decide +kernel
theorem dX12_takesTwo_14 : decode cX12_takesTwo 14 = .ok (.imul, 1) := by decide +kernel
theorem dX12_takesTwo_15 : decode cX12_takesTwo 15 = .ok (.iload_n 2, 1) := by decide +kernel
theorem dX12_takesTwo_16 : decode cX12_takesTwo 16 = .ok (.iadd, 1) := by decide +kernel
theorem dX12_takesTwo_17 : decode cX12_takesTwo 17 = .ok (.if_icmp .ne 7, 3) := by decide +kernel
theorem dX12_takesTwo_20 : decode cX12_takesTwo 20 = .ok (.iconst 1, 1) := by decide +kernel
theorem dX12_takesTwo_21 : decode cX12_takesTwo 21 = .ok (.goto 4, 3) := by decide +kernel
theorem dX12_takesTwo_24 : decode cX12_takesTwo 24 = .ok (.iconst 0, 1) := by decide +kernel
theorem dX12_takesTwo_25 : decode cX12_takesTwo 25 = .ok (.istore_n 3, 1) := by decide +kernel
theorem dX12_takesTwo_26 : decode cX12_takesTwo 26 = .ok (.iload_n 3, 1) := by decide +kernel
theorem dX12_takesTwo_27 : decode cX12_takesTwo 27 = .ok (.ifCond .eq 7, 3) := by decide +kernel
theorem dX12_takesTwo_30 : decode cX12_takesTwo 30 = .ok (.aload_n 0, 1) := by decide +kernel
theorem dX12_takesTwo_31 : decode cX12_takesTwo 31 = .ok (.invokevirtual 147, 3) := by decide +kernel
theorem dX12_takesTwo_34 : decode cX12_takesTwo 34 = .ok (.iload_n 3, 1) := by decide +kernel
theorem dX12_takesTwo_35 : decode cX12_takesTwo 35 = .ok (.ireturn, 1) := by decide +kernel
theorem dX12_knownHere_0 : decode cX12_knownHere 0 = .ok (.aload_n 0, 1) := by decide +kernel
theorem dX12_knownHere_1 : decode cX12_knownHere 1 = .ok (.bipush 9, 2) := by decide +kernel
theorem dX12_knownHere_3 : decode cX12_knownHere 3 = .ok (.bipush 14, 2) := by decide +kernel
theorem dX12_knownHere_5 : decode cX12_knownHere 5 = .ok (.invokevirtual 217, 3) := by decide +kernel
theorem dX12_knownHere_8 : decode cX12_knownHere 8 = .ok (.ifCond .eq 5, 3) := by decide +kernel
theorem dX12_knownHere_11 : decode cX12_knownHere 11 = .ok (.iconst 0, 1) := by decide +kernel
theorem dX12_knownHere_12 : decode cX12_knownHere 12 = .ok (.ireturn, 1) := by decide +kernel
theorem dX12_knownHere_13 : decode cX12_knownHere 13 = .ok (.aload_n 0, 1) := by decide +kernel
theorem dX12_knownHere_14 : decode cX12_knownHere 14 = .ok (.bipush 15, 2) := by decide +kernel
theorem dX12_knownHere_16 : decode cX12_knownHere 16 = .ok (.bipush 21, 2) := by decide +kernel
theorem dX12_knownHere_18 : decode cX12_knownHere 18 = .ok (.bipush 20, 2) := by decide +kernel
theorem dX12_knownHere_20 : decode cX12_knownHere 20 = .ok (.iconst 0, 1) := by decide +kernel
theorem dX12_knownHere_21 : decode cX12_knownHere 21 = .ok (.iconst 0, 1) := by decide +kernel
theorem dX12_knownHere_22 : decode cX12_knownHere 22 = .ok (.iconst 0, 1) := by decide +kernel
theorem dX12_knownHere_23 : decode cX12_knownHere 23 = .ok (.invokevirtual 221, 3) := by decide +kernel
theorem dX12_knownHere_26 : decode cX12_knownHere 26 = .ok (.ifCond .eq 5, 3) := by decide +kernel
theorem dX12_knownHere_29 : decode cX12_knownHere 29 = .ok (.iconst 1, 1) := by decide +kernel
theorem dX12_knownHere_30 : decode cX12_knownHere 30 = .ok (.ireturn, 1) := by decide +kernel
theorem dX12_knownHere_31 : decode cX12_knownHere 31 = .ok (.aload_n 0, 1) := by decide +kernel
theorem dX12_knownHere_32 : decode cX12_knownHere 32 = .ok (.bipush 12, 2) := by decide +kernel
theorem dX12_knownHere_34 : decode cX12_knownHere 34 = .ok (.bipush 15, 2) := by decide +kernel
theorem dX12_knownHere_36 : decode cX12_knownHere 36 = .ok (.bipush 19, 2) := by decide +kernel
theorem dX12_knownHere_38 : decode cX12_knownHere 38 = .ok (.bipush 19, 2) := by decide +kernel
theorem dX12_knownHere_40 : decode cX12_knownHere 40 = .ok (.iconst 0, 1) := by decide +kernel
theorem dX12_knownHere_41 : decode cX12_knownHere 41 = .ok (.iconst 0, 1) := by decide +kernel
theorem dX12_knownHere_42 : decode cX12_knownHere 42 = .ok (.invokevirtual 221, 3) := by decide +kernel
theorem dX12_knownHere_45 : decode cX12_knownHere 45 = .ok (.ifCond .eq 5, 3) := by decide +kernel
theorem dX12_knownHere_48 : decode cX12_knownHere 48 = .ok (.iconst 2, 1) := by decide +kernel
theorem dX12_knownHere_49 : decode cX12_knownHere 49 = .ok (.ireturn, 1) := by decide +kernel
theorem dX12_knownHere_50 : decode cX12_knownHere 50 = .ok (.aload_n 0, 1) := by decide +kernel
theorem dX12_knownHere_51 : decode cX12_knownHere 51 = .ok (.bipush 13, 2) := by decide +kernel
theorem dX12_knownHere_53 : decode cX12_knownHere 53 = .ok (.iconst 1, 1) := by decide +kernel
theorem dX12_knownHere_54 : decode cX12_knownHere 54 = .ok (.bipush 14, 2) := by decide +kernel
theorem dX12_knownHere_56 : decode cX12_knownHere 56 = .ok (.bipush 25, 2) := by decide +kernel
theorem dX12_knownHere_58 : decode cX12_knownHere 58 = .ok (.iconst 0, 1) := by decide +kernel
theorem dX12_knownHere_59 : decode cX12_knownHere 59 = .ok (.iconst 0, 1) := by decide +kernel
theorem dX12_knownHere_60 : decode cX12_knownHere 60 = .ok (.invokevirtual 221, 3) := by decide +kernel
theorem dX12_knownHere_63 : decode cX12_knownHere 63 = .ok (.ifCond .eq 5, 3) := by decide +kernel
theorem dX12_knownHere_66 : decode cX12_knownHere 66 = .ok (.iconst 3, 1) := by decide +kernel
theorem dX12_knownHere_67 : decode cX12_knownHere 67 = .ok (.ireturn, 1) := by decide +kernel
theorem dX12_knownHere_68 : decode cX12_knownHere 68 = .ok (.aload_n 0, 1) := by decide +kernel
theorem dX12_knownHere_69 : decode cX12_knownHere 69 = .ok (.iconst 4, 1) := by decide +kernel
theorem dX12_knownHere_70 : decode cX12_knownHere 70 = .ok (.iconst 1, 1) := by decide +kernel
theorem dX12_knownHere_71 : decode cX12_knownHere 71 = .ok (.bipush 25, 2) := by decide +kernel
theorem dX12_knownHere_73 : decode cX12_knownHere 73 = .ok (.iconst 0, 1) := by decide +kernel
theorem dX12_knownHere_74 : decode cX12_knownHere 74 = .ok (.iconst 0, 1) := by decide +kernel
theorem dX12_knownHere_75 : decode cX12_knownHere 75 = .ok (.iconst 0, 1) := by decide +kernel
theorem dX12_knownHere_76 : decode cX12_knownHere 76 = .ok (.invokevirtual 221, 3) := by decide +kernel
theorem dX12_knownHere_79 : decode cX12_knownHere 79 = .ok (.ifCond .eq 5, 3) := by decide +kernel
theorem dX12_knownHere_82 : decode cX12_knownHere 82 = .ok (.iconst 4, 1) := by decide +kernel
theorem dX12_knownHere_83 : decode cX12_knownHere 83 = .ok (.ireturn, 1) := by decide +kernel
theorem dX12_knownHere_84 : decode cX12_knownHere 84 = .ok (.aload_n 0, 1) := by decide +kernel
theorem dX12_knownHere_85 : decode cX12_knownHere 85 = .ok (.bipush 16, 2) := by decide +kernel
theorem dX12_knownHere_87 : decode cX12_knownHere 87 = .ok (.iconst 5, 1) := by decide +kernel
theorem dX12_knownHere_88 : decode cX12_knownHere 88 = .ok (.bipush 14, 2) := by decide +kernel
theorem dX12_knownHere_90 : decode cX12_knownHere 90 = .ok (.iconst 0, 1) := by decide +kernel
theorem dX12_knownHere_91 : decode cX12_knownHere 91 = .ok (.iconst 0, 1) := by decide +kernel
theorem dX12_knownHere_92 : decode cX12_knownHere 92 = .ok (.iconst 0, 1) := by decide +kernel
theorem dX12_knownHere_93 : decode cX12_knownHere 93 = .ok (.invokevirtual 221, 3) := by decide +kernel
theorem dX12_knownHere_96 : decode cX12_knownHere 96 = .ok (.ifCond .eq 5, 3) := by decide +kernel
theorem dX12_knownHere_99 : decode cX12_knownHere 99 = .ok (.iconst 5, 1) := by decide +kernel
theorem dX12_knownHere_100 : decode cX12_knownHere 100 = .ok (.ireturn, 1) := by decide +kernel
theorem dX12_knownHere_101 : decode cX12_knownHere 101 = .ok (.aload_n 0, 1) := by decide +kernel
theorem dX12_knownHere_102 : decode cX12_knownHere 102 = .ok (.bipush 13, 2) := by decide +kernel
theorem dX12_knownHere_104 : decode cX12_knownHere 104 = .ok (.bipush 21, 2) := by decide +kernel
theorem dX12_knownHere_106 : decode cX12_knownHere 106 = .ok (.bipush 12, 2) := by decide +kernel
theorem dX12_knownHere_108 : decode cX12_knownHere 108 = .ok (.iconst 0, 1) := by decide +kernel
theorem dX12_knownHere_109 : decode cX12_knownHere 109 = .ok (.iconst 0, 1) := by decide +kernel
theorem dX12_knownHere_110 : decode cX12_knownHere 110 = .ok (.iconst 0, 1) := by decide +kernel
theorem dX12_knownHere_111 : decode cX12_knownHere 111 = .ok (.invokevirtual 221, 3) := by decide +kernel
theorem dX12_knownHere_114 : decode cX12_knownHere 114 = .ok (.ifCond .eq 6, 3) := by decide +kernel
theorem dX12_knownHere_117 : decode cX12_knownHere 117 = .ok (.bipush 6, 2) := by decide +kernel
theorem dX12_knownHere_119 : decode cX12_knownHere 119 = .ok (.ireturn, 1) := by decide +kernel
theorem dX12_knownHere_120 : decode cX12_knownHere 120 = .ok (.aload_n 0, 1) := by decide +kernel
theorem dX12_knownHere_121 : decode cX12_knownHere 121 = .ok (.iconst 4, 1) := by decide +kernel
theorem dX12_knownHere_122 : decode cX12_knownHere 122 = .ok (.bipush 9, 2) := by decide +kernel
theorem dX12_knownHere_124 : decode cX12_knownHere 124 = .ok (.bipush 22, 2) := by decide +kernel
theorem dX12_knownHere_126 : decode cX12_knownHere 126 = .ok (.iconst 0, 1) := by decide +kernel
theorem dX12_knownHere_127 : decode cX12_knownHere 127 = .ok (.iconst 0, 1) := by decide +kernel
theorem dX12_knownHere_128 : decode cX12_knownHere 128 = .ok (.iconst 0, 1) := by decide +kernel
theorem dX12_knownHere_129 : decode cX12_knownHere 129 = .ok (.invokevirtual 221, 3) := by decide +kernel
theorem dX12_knownHere_132 : decode cX12_knownHere 132 = .ok (.ifCond .eq 8, 3) := by decide +kernel
theorem dX12_knownHere_135 : decode cX12_knownHere 135 = .ok (.bipush 7, 2) := by decide +kernel
theorem dX12_knownHere_137 : decode cX12_knownHere 137 = .ok (.goto 4, 3) := by decide +kernel
theorem dX12_knownHere_140 : decode cX12_knownHere 140 = .ok (.iconst (-1), 1) := by decide +kernel
theorem dX12_knownHere_141 : decode cX12_knownHere 141 = .ok (.ireturn, 1) := by decide +kernel
theorem dX12_one_0 : decode cX12_one 0 = .ok (.aload_n 0, 1) := by decide +kernel
theorem dX12_one_1 : decode cX12_one 1 = .ok (.getfield 110, 3) := by decide +kernel
theorem dX12_one_4 : decode cX12_one 4 = .ok (.ifCond .eq 4, 3) := by decide +kernel
theorem dX12_one_7 : decode cX12_one 7 = .ok (.return_, 1) := by decide +kernel
theorem dX12_one_8 : decode cX12_one 8 = .ok (.aload_n 0, 1) := by decide +kernel
theorem dX12_one_9 : decode cX12_one 9 = .ok (.invokevirtual 116, 3) := by decide +kernel
theorem dX12_one_12 : decode cX12_one 12 = .ok (.aload_n 0, 1) := by decide +kernel
theorem dX12_one_13 : decode cX12_one 13 = .ok (.bipush 12, 2) := by decide +kernel
theorem dX12_one_15 : decode cX12_one 15 = .ok (.iconst 5, 1) := by decide +kernel
theorem dX12_one_16 : decode cX12_one 16 = .ok (.iconst 1, 1) := by decide +kernel
theorem dX12_one_17 : decode cX12_one 17 = .ok (.bipush 19, 2) := by decide +kernel
theorem dX12_one_19 : decode cX12_one 19 = .ok (.bipush 20, 2) := by decide +kernel
theorem dX12_one_21 : decode cX12_one 21 = .ok (.iconst 0, 1) := by decide +kernel
theorem dX12_one_22 : decode cX12_one 22 = .ok (.invokevirtual 143, 3) := by decide +kernel
theorem dX12_one_25 : decode cX12_one 25 = .ok (.ifCond .eq 8, 3) := by decide +kernel
theorem dX12_one_28 : decode cX12_one 28 = .ok (.bipush 7, 2) := by decide +kernel
theorem dX12_one_30 : decode cX12_one 30 = .ok (.goto 26, 3) := by decide +kernel
theorem dX12_one_33 : decode cX12_one 33 = .ok (.aload_n 0, 1) := by decide +kernel
theorem dX12_one_34 : decode cX12_one 34 = .ok (.bipush 13, 2) := by decide +kernel
theorem dX12_one_36 : decode cX12_one 36 = .ok (.bipush 15, 2) := by decide +kernel
theorem dX12_one_38 : decode cX12_one 38 = .ok (.bipush 19, 2) := by decide +kernel
theorem dX12_one_40 : decode cX12_one 40 = .ok (.bipush 20, 2) := by decide +kernel
theorem dX12_one_42 : decode cX12_one 42 = .ok (.iconst 0, 1) := by decide +kernel
theorem dX12_one_43 : decode cX12_one 43 = .ok (.iconst 0, 1) := by decide +kernel
theorem dX12_one_44 : decode cX12_one 44 = .ok (.invokevirtual 143, 3) := by decide +kernel
theorem dX12_one_47 : decode cX12_one 47 = .ok (.ifCond .eq 8, 3) := by decide +kernel
theorem dX12_one_50 : decode cX12_one 50 = .ok (.bipush 8, 2) := by decide +kernel
theorem dX12_one_52 : decode cX12_one 52 = .ok (.goto 4, 3) := by decide +kernel
theorem dX12_one_55 : decode cX12_one 55 = .ok (.iconst (-1), 1) := by decide +kernel
theorem dX12_one_56 : decode cX12_one 56 = .ok (.istore_n 1, 1) := by decide +kernel
theorem dX12_one_57 : decode cX12_one 57 = .ok (.iload_n 1, 1) := by decide +kernel
theorem dX12_one_58 : decode cX12_one 58 = .ok (.iconst (-1), 1) := by decide +kernel
theorem dX12_one_59 : decode cX12_one 59 = .ok (.if_icmp .eq 58, 3) := by decide +kernel
theorem dX12_one_62 : decode cX12_one 62 = .ok (.aload_n 0, 1) := by decide +kernel
theorem dX12_one_63 : decode cX12_one 63 = .ok (.invokevirtual 224, 3) := by decide +kernel
theorem dX12_one_66 : decode cX12_one 66 = .ok (.ifCond .ne 4, 3) := by decide +kernel
theorem dX12_one_69 : decode cX12_one 69 = .ok (.return_, 1) := by decide +kernel
theorem dX12_one_70 : decode cX12_one 70 = .ok (.aload_n 0, 1) := by decide +kernel
theorem dX12_one_71 : decode cX12_one 71 = .ok (.invokevirtual 147, 3) := by decide +kernel
theorem dX12_one_74 : decode cX12_one 74 = .ok (.aload_n 0, 1) := by decide +kernel
theorem dX12_one_75 : decode cX12_one 75 = .ok (.bipush 91, 2) := by decide +kernel
theorem dX12_one_77 : decode cX12_one 77 = .ok (.invokevirtual 163, 3) := by decide +kernel
theorem dX12_one_80 : decode cX12_one 80 = .ok (.aload_n 0, 1) := by decide +kernel
theorem dX12_one_81 : decode cX12_one 81 = .ok (.invokevirtual 228, 3) := by decide +kernel
theorem dX12_one_84 : decode cX12_one 84 = .ok (.aload_n 0, 1) := by decide +kernel
theorem dX12_one_85 : decode cX12_one 85 = .ok (.bipush 44, 2) := by decide +kernel
theorem dX12_one_87 : decode cX12_one 87 = .ok (.invokevirtual 163, 3) := by decide +kernel
theorem dX12_one_90 : decode cX12_one 90 = .ok (.aload_n 0, 1) := by decide +kernel
theorem dX12_one_91 : decode cX12_one 91 = .ok (.invokevirtual 228, 3) := by decide +kernel
theorem dX12_one_94 : decode cX12_one 94 = .ok (.aload_n 0, 1) := by decide +kernel
theorem dX12_one_95 : decode cX12_one 95 = .ok (.bipush 93, 2) := by decide +kernel
theorem dX12_one_97 : decode cX12_one 97 = .ok (.invokevirtual 163, 3) := by decide +kernel
theorem dX12_one_100 : decode cX12_one 100 = .ok (.aload_n 0, 1) := by decide +kernel
theorem dX12_one_101 : decode cX12_one 101 = .ok (.iload_n 1, 1) := by decide +kernel
theorem dX12_one_102 : decode cX12_one 102 = .ok (.iconst 0, 1) := by decide +kernel
theorem dX12_one_103 : decode cX12_one 103 = .ok (.invokevirtual 211, 3) := by decide +kernel
theorem dX12_one_106 : decode cX12_one 106 = .ok (.aload_n 0, 1) := by decide +kernel
theorem dX12_one_107 : decode cX12_one 107 = .ok (.dup, 1) := by decide +kernel
theorem dX12_one_108 : decode cX12_one 108 = .ok (.getfield 153, 3) := by decide +kernel
theorem dX12_one_111 : decode cX12_one 111 = .ok (.iconst 1, 1) := by decide +kernel
theorem dX12_one_112 : decode cX12_one 112 = .ok (.isub, 1) := by decide +kernel
theorem dX12_one_113 : decode cX12_one 113 = .ok (.putfield 153, 3) := by decide +kernel
theorem dX12_one_116 : decode cX12_one 116 = .ok (.return_, 1) := by decide +kernel
theorem dX12_one_117 : decode cX12_one 117 = .ok (.aload_n 0, 1) := by decide +kernel
theorem dX12_one_118 : decode cX12_one 118 = .ok (.aload_n 0, 1) := by decide +kernel
theorem dX12_one_119 : decode cX12_one 119 = .ok (.getfield 103, 3) := by decide +kernel
theorem dX12_one_122 : decode cX12_one 122 = .ok (.invokevirtual 106, 3) := by decide +kernel
theorem dX12_one_125 : decode cX12_one 125 = .ok (.bipush 40, 2) := by decide +kernel
theorem dX12_one_127 : decode cX12_one 127 = .ok (.if_icmp .ne 42, 3) := by decide +kernel
theorem dX12_one_130 : decode cX12_one 130 = .ok (.aload_n 0, 1) := by decide +kernel
theorem dX12_one_131 : decode cX12_one 131 = .ok (.invokevirtual 224, 3) := by decide +kernel
theorem dX12_one_134 : decode cX12_one 134 = .ok (.ifCond .ne 4, 3) := by decide +kernel
theorem dX12_one_137 : decode cX12_one 137 = .ok (.return_, 1) := by decide +kernel
theorem dX12_one_138 : decode cX12_one 138 = .ok (.aload_n 0, 1) := by decide +kernel
theorem dX12_one_139 : decode cX12_one 139 = .ok (.dup, 1) := by decide +kernel
theorem dX12_one_140 : decode cX12_one 140 = .ok (.getfield 103, 3) := by decide +kernel
theorem dX12_one_143 : decode cX12_one 143 = .ok (.iconst 1, 1) := by decide +kernel
theorem dX12_one_144 : decode cX12_one 144 = .ok (.iadd, 1) := by decide +kernel
theorem dX12_one_145 : decode cX12_one 145 = .ok (.putfield 103, 3) := by decide +kernel
theorem dX12_one_148 : decode cX12_one 148 = .ok (.aload_n 0, 1) := by decide +kernel
theorem dX12_one_149 : decode cX12_one 149 = .ok (.invokevirtual 228, 3) := by decide +kernel
theorem dX12_one_152 : decode cX12_one 152 = .ok (.aload_n 0, 1) := by decide +kernel
theorem dX12_one_153 : decode cX12_one 153 = .ok (.bipush 41, 2) := by decide +kernel
theorem dX12_one_155 : decode cX12_one 155 = .ok (.invokevirtual 163, 3) := by decide +kernel
theorem dX12_one_158 : decode cX12_one 158 = .ok (.aload_n 0, 1) := by decide +kernel
theorem dX12_one_159 : decode cX12_one 159 = .ok (.dup, 1) := by decide +kernel
theorem dX12_one_160 : decode cX12_one 160 = .ok (.getfield 153, 3) := by decide +kernel
theorem dX12_one_163 : decode cX12_one 163 = .ok (.iconst 1, 1) := by decide +kernel
theorem dX12_one_164 : decode cX12_one 164 = .ok (.isub, 1) := by decide +kernel
theorem dX12_one_165 : decode cX12_one 165 = .ok (.putfield 153, 3) := by decide +kernel
theorem dX12_one_168 : decode cX12_one 168 = .ok (.return_, 1) := by decide +kernel
theorem dX12_one_169 : decode cX12_one 169 = .ok (.aload_n 0, 1) := by decide +kernel
theorem dX12_one_170 : decode cX12_one 170 = .ok (.invokevirtual 231, 3) := by decide +kernel
theorem dX12_one_173 : decode cX12_one 173 = .ok (.istore_n 2, 1) := by decide +kernel
theorem dX12_one_174 : decode cX12_one 174 = .ok (.iload_n 2, 1) := by decide +kernel
theorem dX12_one_175 : decode cX12_one 175 = .ok (.iconst (-1), 1) := by decide +kernel
theorem dX12_one_176 : decode cX12_one 176 = .ok (.if_icmp .eq 12, 3) := by decide +kernel
theorem dX12_one_179 : decode cX12_one 179 = .ok (.aload_n 0, 1) := by decide +kernel
theorem dX12_one_180 : decode cX12_one 180 = .ok (.iconst 1, 1) := by decide +kernel
theorem dX12_one_181 : decode cX12_one 181 = .ok (.iload_n 2, 1) := by decide +kernel
theorem dX12_one_182 : decode cX12_one 182 = .ok (.invokevirtual 211, 3) := by decide +kernel
theorem dX12_one_185 : decode cX12_one 185 = .ok (.goto 16, 3) := by decide +kernel
theorem dX12_one_188 : decode cX12_one 188 = .ok (.aload_n 0, 1) := by decide +kernel
theorem dX12_one_189 : decode cX12_one 189 = .ok (.iconst 0, 1) := by decide +kernel
theorem dX12_one_190 : decode cX12_one 190 = .ok (.aload_n 0, 1) := by decide +kernel
theorem dX12_one_191 : decode cX12_one 191 = .ok (.iconst 0, 1) := by decide +kernel
theorem dX12_one_192 : decode cX12_one 192 = .ok (.sipush 999, 3) := by decide +kernel
theorem dX12_one_195 : decode cX12_one 195 = .ok (.invokevirtual 159, 3) := by decide +kernel
theorem dX12_one_198 : decode cX12_one 198 = .ok (.invokevirtual 211, 3) := by decide +kernel
theorem dX12_one_201 : decode cX12_one 201 = .ok (.return_, 1) := by decide +kernel
theorem dX12_law_0 : decode cX12_law 0 = .ok (.aload_n 0, 1) := by decide +kernel
theorem dX12_law_1 : decode cX12_law 1 = .ok (.iconst 0, 1) := by decide +kernel
theorem dX12_law_2 : decode cX12_law 2 = .ok (.putfield 94, 3) := by decide +kernel
theorem dX12_law_5 : decode cX12_law 5 = .ok (.aload_n 0, 1) := by decide +kernel
theorem dX12_law_6 : decode cX12_law 6 = .ok (.iload_n 1, 1) := by decide +kernel
theorem dX12_law_7 : decode cX12_law 7 = .ok (.iconst 0, 1) := by decide +kernel
theorem dX12_law_8 : decode cX12_law 8 = .ok (.aload_n 0, 1) := by decide +kernel
theorem dX12_law_9 : decode cX12_law 9 = .ok (.getfield 97, 3) := by decide +kernel
theorem dX12_law_12 : decode cX12_law 12 = .ok (.invokestatic 128, 3) := by decide +kernel
theorem dX12_law_15 : decode cX12_law 15 = .ok (.ifCond .eq 10, 3) := by decide +kernel
theorem dX12_law_18 : decode cX12_law 18 = .ok (.iload_n 1, 1) := by decide +kernel
theorem dX12_law_19 : decode cX12_law 19 = .ok (.sipush 150, 3) := by decide +kernel
theorem dX12_law_22 : decode cX12_law 22 = .ok (.if_icmp .le 7, 3) := by decide +kernel
theorem dX12_law_25 : decode cX12_law 25 = .ok (.iconst 1, 1) := by decide +kernel
theorem dX12_law_26 : decode cX12_law 26 = .ok (.goto 4, 3) := by decide +kernel
theorem dX12_law_29 : decode cX12_law 29 = .ok (.iconst 0, 1) := by decide +kernel
theorem dX12_law_30 : decode cX12_law 30 = .ok (.iconst 1, 1) := by decide +kernel
theorem dX12_law_31 : decode cX12_law 31 = .ok (.iconst 1, 1) := by decide +kernel
theorem dX12_law_32 : decode cX12_law 32 = .ok (.invokevirtual 167, 3) := by decide +kernel
theorem dX12_law_35 : decode cX12_law 35 = .ok (.ifCond .eq 5, 3) := by decide +kernel
theorem dX12_law_38 : decode cX12_law 38 = .ok (.iconst 0, 1) := by decide +kernel
theorem dX12_law_39 : decode cX12_law 39 = .ok (.ireturn, 1) := by decide +kernel
theorem dX12_law_40 : decode cX12_law 40 = .ok (.aload_n 0, 1) := by decide +kernel
theorem dX12_law_41 : decode cX12_law 41 = .ok (.iload_n 1, 1) := by decide +kernel
theorem dX12_law_42 : decode cX12_law 42 = .ok (.invokevirtual 171, 3) := by decide +kernel
theorem dX12_law_45 : decode cX12_law 45 = .ok (.aload_n 0, 1) := by decide +kernel
theorem dX12_law_46 : decode cX12_law 46 = .ok (.iconst 0, 1) := by decide +kernel
theorem dX12_law_47 : decode cX12_law 47 = .ok (.putfield 202, 3) := by decide +kernel
theorem dX12_law_50 : decode cX12_law 50 = .ok (.aload_n 0, 1) := by decide +kernel
theorem dX12_law_51 : decode cX12_law 51 = .ok (.invokevirtual 228, 3) := by decide +kernel
theorem dX12_law_54 : decode cX12_law 54 = .ok (.aload_n 0, 1) := by decide +kernel
theorem dX12_law_55 : decode cX12_law 55 = .ok (.invokevirtual 116, 3) := by decide +kernel
theorem dX12_law_58 : decode cX12_law 58 = .ok (.aload_n 0, 1) := by decide +kernel
theorem dX12_law_59 : decode cX12_law 59 = .ok (.getfield 110, 3) := by decide +kernel
theorem dX12_law_62 : decode cX12_law 62 = .ok (.ifCond .ne 23, 3) := by decide +kernel
theorem dX12_law_65 : decode cX12_law 65 = .ok (.aload_n 0, 1) := by decide +kernel
theorem dX12_law_66 : decode cX12_law 66 = .ok (.getfield 103, 3) := by decide +kernel
theorem dX12_law_69 : decode cX12_law 69 = .ok (.aload_n 0, 1) := by decide +kernel
theorem dX12_law_70 : decode cX12_law 70 = .ok (.getfield 100, 3) := by decide +kernel
theorem dX12_law_73 : decode cX12_law 73 = .ok (.if_icmp .ge 12, 3) := by decide +kernel
theorem dX12_law_76 : decode cX12_law 76 = .ok (.aload_n 0, 1) := by decide +kernel
theorem dX12_law_77 : decode cX12_law 77 = .ok (.iconst 1, 1) := by decide +kernel
theorem dX12_law_78 : decode cX12_law 78 = .ok (.aload_n 0, 1) := by decide +kernel
theorem dX12_law_79 : decode cX12_law 79 = .ok (.getfield 103, 3) := by decide +kernel
theorem dX12_law_82 : decode cX12_law 82 = .ok (.invokevirtual 123, 3) := by decide +kernel
theorem dX12_law_85 : decode cX12_law 85 = .ok (.aload_n 0, 1) := by decide +kernel
theorem dX12_law_86 : decode cX12_law 86 = .ok (.getfield 110, 3) := by decide +kernel
theorem dX12_law_89 : decode cX12_law 89 = .ok (.ifCond .eq 8, 3) := by decide +kernel
theorem dX12_law_92 : decode cX12_law 92 = .ok (.aload_n 0, 1) := by decide +kernel
theorem dX12_law_93 : decode cX12_law 93 = .ok (.invokevirtual 177, 3) := by decide +kernel
theorem dX12_law_96 : decode cX12_law 96 = .ok (.ireturn, 1) := by decide +kernel
theorem dX12_law_97 : decode cX12_law 97 = .ok (.aload_n 0, 1) := by decide +kernel
theorem dX12_law_98 : decode cX12_law 98 = .ok (.iconst (-1), 1) := by decide +kernel
theorem dX12_law_99 : decode cX12_law 99 = .ok (.putfield 9, 3) := by decide +kernel
theorem dX12_law_102 : decode cX12_law 102 = .ok (.aload_n 0, 1) := by decide +kernel
theorem dX12_law_103 : decode cX12_law 103 = .ok (.aload_n 0, 1) := by decide +kernel
theorem dX12_law_104 : decode cX12_law 104 = .ok (.getfield 202, 3) := by decide +kernel
theorem dX12_law_107 : decode cX12_law 107 = .ok (.putfield 184, 3) := by decide +kernel
theorem dX12_law_110 : decode cX12_law 110 = .ok (.aload_n 0, 1) := by decide +kernel
theorem dX12_law_111 : decode cX12_law 111 = .ok (.getfield 43, 3) := by decide +kernel
theorem dX12_law_114 : decode cX12_law 114 = .ok (.aload_n 0, 1) := by decide +kernel
theorem dX12_law_115 : decode cX12_law 115 = .ok (.getfield 40, 3) := by decide +kernel
theorem dX12_law_118 : decode cX12_law 118 = .ok (.aload_n 0, 1) := by decide +kernel
theorem dX12_law_119 : decode cX12_law 119 = .ok (.getfield 184, 3) := by decide +kernel
theorem dX12_law_122 : decode cX12_law 122 = .ok (.invokestatic 180, 3) := by decide +kernel
theorem dX12_law_125 : decode cX12_law 125 = .ok (.iconst 1, 1) := by decide +kernel
theorem dX12_law_126 : decode cX12_law 126 = .ok (.ireturn, 1) := by decide +kernel
theorem dX12_by_0 : decode cX12_by 0 = .ok (.iload_n 0, 1) := by decide +kernel
theorem dX12_by_1 : decode cX12_by 1 = .ok (.tableswitch 96 2 7 #[39, 43, 47, 51, 73, 90], 39) := by decide +kernel
theorem dX12_by_40 : decode cX12_by 40 = .ok (.iload_n 1, 1) := by decide +kernel
theorem dX12_by_41 : decode cX12_by 41 = .ok (.iload_n 2, 1) := by decide +kernel
theorem dX12_by_42 : decode cX12_by 42 = .ok (.iadd, 1) := by decide +kernel
theorem dX12_by_43 : decode cX12_by 43 = .ok (.ireturn, 1) := by decide +kernel
theorem dX12_by_44 : decode cX12_by 44 = .ok (.iload_n 1, 1) := by decide +kernel
theorem dX12_by_45 : decode cX12_by 45 = .ok (.iload_n 2, 1) := by decide +kernel
theorem dX12_by_46 : decode cX12_by 46 = .ok (.isub, 1) := by decide +kernel
theorem dX12_by_47 : decode cX12_by 47 = .ok (.ireturn, 1) := by decide +kernel
theorem dX12_by_48 : decode cX12_by 48 = .ok (.iload_n 1, 1) := by decide +kernel
theorem dX12_by_49 : decode cX12_by 49 = .ok (.iload_n 2, 1) := by decide +kernel
theorem dX12_by_50 : decode cX12_by 50 = .ok (.imul, 1) := by decide +kernel
theorem dX12_by_51 : decode cX12_by 51 = .ok (.ireturn, 1) := by decide +kernel
theorem dX12_by_52 : decode cX12_by 52 = .ok (.iload_n 2, 1) := by decide +kernel
theorem dX12_by_53 : decode cX12_by 53 = .ok (.ifCond .ne 7, 3) := by decide +kernel
theorem dX12_by_56 : decode cX12_by 56 = .ok (.iconst 0, 1) := by decide +kernel
theorem dX12_by_57 : decode cX12_by 57 = .ok (.goto 16, 3) := by decide +kernel
theorem dX12_by_60 : decode cX12_by 60 = .ok (.iload_n 2, 1) := by decide +kernel
theorem dX12_by_61 : decode cX12_by 61 = .ok (.iconst (-1), 1) := by decide +kernel
theorem dX12_by_62 : decode cX12_by 62 = .ok (.if_icmp .ne 8, 3) := by decide +kernel
theorem dX12_by_65 : decode cX12_by 65 = .ok (.iload_n 1, 1) := by decide +kernel
theorem dX12_by_66 : decode cX12_by 66 = .ok (.ineg, 1) := by decide +kernel
theorem dX12_by_67 : decode cX12_by 67 = .ok (.goto 6, 3) := by decide +kernel
theorem dX12_by_70 : decode cX12_by 70 = .ok (.iload_n 1, 1) := by decide +kernel
theorem dX12_by_71 : decode cX12_by 71 = .ok (.iload_n 2, 1) := by decide +kernel
theorem dX12_by_72 : decode cX12_by 72 = .ok (.idiv, 1) := by decide +kernel
theorem dX12_by_73 : decode cX12_by 73 = .ok (.ireturn, 1) := by decide +kernel
theorem dX12_by_74 : decode cX12_by 74 = .ok (.iload_n 2, 1) := by decide +kernel
theorem dX12_by_75 : decode cX12_by 75 = .ok (.ifCond .eq 8, 3) := by decide +kernel
theorem dX12_by_78 : decode cX12_by 78 = .ok (.iload_n 2, 1) := by decide +kernel
theorem dX12_by_79 : decode cX12_by 79 = .ok (.iconst (-1), 1) := by decide +kernel
theorem dX12_by_80 : decode cX12_by 80 = .ok (.if_icmp .ne 7, 3) := by decide +kernel
theorem dX12_by_83 : decode cX12_by 83 = .ok (.iconst 0, 1) := by decide +kernel
theorem dX12_by_84 : decode cX12_by 84 = .ok (.goto 6, 3) := by decide +kernel
theorem dX12_by_87 : decode cX12_by 87 = .ok (.iload_n 1, 1) := by decide +kernel
theorem dX12_by_88 : decode cX12_by 88 = .ok (.iload_n 2, 1) := by decide +kernel
theorem dX12_by_89 : decode cX12_by 89 = .ok (.irem, 1) := by decide +kernel
theorem dX12_by_90 : decode cX12_by 90 = .ok (.ireturn, 1) := by decide +kernel
theorem dX12_by_91 : decode cX12_by 91 = .ok (.iload_n 1, 1) := by decide +kernel
theorem dX12_by_92 : decode cX12_by 92 = .ok (.iload_n 2, 1) := by decide +kernel
theorem dX12_by_93 : decode cX12_by 93 = .ok (.invokestatic 234, 3) := by decide +kernel
theorem dX12_by_96 : decode cX12_by 96 = .ok (.ireturn, 1) := by decide +kernel
theorem dX12_by_97 : decode cX12_by 97 = .ok (.iload_n 1, 1) := by decide +kernel
theorem dX12_by_98 : decode cX12_by 98 = .ok (.iload_n 2, 1) := by decide +kernel
theorem dX12_by_99 : decode cX12_by 99 = .ok (.invokestatic 237, 3) := by decide +kernel
theorem dX12_by_102 : decode cX12_by 102 = .ok (.ireturn, 1) := by decide +kernel
theorem dX12_byLaw_0 : decode cX12_byLaw 0 = .ok (.iconst 0, 1) := by decide +kernel
theorem dX12_byLaw_1 : decode cX12_byLaw 1 = .ok (.istore_n 1, 1) := by decide +kernel
theorem dX12_byLaw_2 : decode cX12_byLaw 2 = .ok (.aload_n 0, 1) := by decide +kernel
theorem dX12_byLaw_3 : decode cX12_byLaw 3 = .ok (.getfield 52, 3) := by decide +kernel
theorem dX12_byLaw_6 : decode cX12_byLaw 6 = .ok (.iconst 0, 1) := by decide +kernel
theorem dX12_byLaw_7 : decode cX12_byLaw 7 = .ok (.aload_n 0, 1) := by decide +kernel
theorem dX12_byLaw_8 : decode cX12_byLaw 8 = .ok (.getfield 55, 3) := by decide +kernel
theorem dX12_byLaw_11 : decode cX12_byLaw 11 = .ok (.iconst 2, 1) := by decide +kernel
theorem dX12_byLaw_12 : decode cX12_byLaw 12 = .ok (.iaload, 1) := by decide +kernel
theorem dX12_byLaw_13 : decode cX12_byLaw 13 = .ok (.iastore, 1) := by decide +kernel
theorem dX12_byLaw_14 : decode cX12_byLaw 14 = .ok (.iconst 0, 1) := by decide +kernel
theorem dX12_byLaw_15 : decode cX12_byLaw 15 = .ok (.istore_n 2, 1) := by decide +kernel
theorem dX12_byLaw_16 : decode cX12_byLaw 16 = .ok (.iload_n 2, 1) := by decide +kernel
theorem dX12_byLaw_17 : decode cX12_byLaw 17 = .ok (.aload_n 0, 1) := by decide +kernel
theorem dX12_byLaw_18 : decode cX12_byLaw 18 = .ok (.getfield 184, 3) := by decide +kernel
theorem dX12_byLaw_21 : decode cX12_byLaw 21 = .ok (.if_icmp .ge 104, 3) := by decide +kernel
theorem dX12_byLaw_24 : decode cX12_byLaw 24 = .ok (.aload_n 0, 1) := by decide +kernel
theorem dX12_byLaw_25 : decode cX12_byLaw 25 = .ok (.getfield 40, 3) := by decide +kernel
theorem dX12_byLaw_28 : decode cX12_byLaw 28 = .ok (.iload_n 2, 1) := by decide +kernel
theorem dX12_byLaw_29 : decode cX12_byLaw 29 = .ok (.aaload, 1) := by decide +kernel
theorem dX12_byLaw_30 : decode cX12_byLaw 30 = .ok (.iconst 0, 1) := by decide +kernel
theorem dX12_byLaw_31 : decode cX12_byLaw 31 = .ok (.iaload, 1) := by decide +kernel
theorem dX12_byLaw_32 : decode cX12_byLaw 32 = .ok (.iconst 2, 1) := by decide +kernel
theorem dX12_byLaw_33 : decode cX12_byLaw 33 = .ok (.if_icmp .ge 50, 3) := by decide +kernel
theorem dX12_byLaw_36 : decode cX12_byLaw 36 = .ok (.aload_n 0, 1) := by decide +kernel
theorem dX12_byLaw_37 : decode cX12_byLaw 37 = .ok (.getfield 52, 3) := by decide +kernel
theorem dX12_byLaw_40 : decode cX12_byLaw 40 = .ok (.iload_n 1, 1) := by decide +kernel
theorem dX12_byLaw_41 : decode cX12_byLaw 41 = .ok (.aload_n 0, 1) := by decide +kernel
theorem dX12_byLaw_42 : decode cX12_byLaw 42 = .ok (.getfield 40, 3) := by decide +kernel
theorem dX12_byLaw_45 : decode cX12_byLaw 45 = .ok (.iload_n 2, 1) := by decide +kernel
theorem dX12_byLaw_46 : decode cX12_byLaw 46 = .ok (.aaload, 1) := by decide +kernel
theorem dX12_byLaw_47 : decode cX12_byLaw 47 = .ok (.iconst 0, 1) := by decide +kernel
theorem dX12_byLaw_48 : decode cX12_byLaw 48 = .ok (.iaload, 1) := by decide +kernel
theorem dX12_byLaw_49 : decode cX12_byLaw 49 = .ok (.ifCond .ne 14, 3) := by decide +kernel
theorem dX12_byLaw_52 : decode cX12_byLaw 52 = .ok (.aload_n 0, 1) := by decide +kernel
theorem dX12_byLaw_53 : decode cX12_byLaw 53 = .ok (.getfield 40, 3) := by decide +kernel
theorem dX12_byLaw_56 : decode cX12_byLaw 56 = .ok (.iload_n 2, 1) := by decide +kernel
theorem dX12_byLaw_57 : decode cX12_byLaw 57 = .ok (.aaload, 1) := by decide +kernel
theorem dX12_byLaw_58 : decode cX12_byLaw 58 = .ok (.iconst 1, 1) := by decide +kernel
theorem dX12_byLaw_59 : decode cX12_byLaw 59 = .ok (.iaload, 1) := by decide +kernel
theorem dX12_byLaw_60 : decode cX12_byLaw 60 = .ok (.goto 16, 3) := by decide +kernel
theorem dX12_byLaw_63 : decode cX12_byLaw 63 = .ok (.aload_n 0, 1) := by decide +kernel
theorem dX12_byLaw_64 : decode cX12_byLaw 64 = .ok (.getfield 55, 3) := by decide +kernel
theorem dX12_byLaw_67 : decode cX12_byLaw 67 = .ok (.aload_n 0, 1) := by decide +kernel
theorem dX12_byLaw_68 : decode cX12_byLaw 68 = .ok (.getfield 40, 3) := by decide +kernel
theorem dX12_byLaw_71 : decode cX12_byLaw 71 = .ok (.iload_n 2, 1) := by decide +kernel
theorem dX12_byLaw_72 : decode cX12_byLaw 72 = .ok (.aaload, 1) := by decide +kernel
theorem dX12_byLaw_73 : decode cX12_byLaw 73 = .ok (.iconst 1, 1) := by decide +kernel
theorem dX12_byLaw_74 : decode cX12_byLaw 74 = .ok (.iaload, 1) := by decide +kernel
theorem dX12_byLaw_75 : decode cX12_byLaw 75 = .ok (.iaload, 1) := by decide +kernel
theorem dX12_byLaw_76 : decode cX12_byLaw 76 = .ok (.iastore, 1) := by decide +kernel
theorem dX12_byLaw_77 : decode cX12_byLaw 77 = .ok (.iinc 1 1, 3) := by decide +kernel
theorem dX12_byLaw_80 : decode cX12_byLaw 80 = .ok (.goto 39, 3) := by decide +kernel
theorem dX12_byLaw_83 : decode cX12_byLaw 83 = .ok (.iinc 1 (-1), 3) := by decide +kernel
theorem dX12_byLaw_86 : decode cX12_byLaw 86 = .ok (.aload_n 0, 1) := by decide +kernel
theorem dX12_byLaw_87 : decode cX12_byLaw 87 = .ok (.getfield 52, 3) := by decide +kernel
theorem dX12_byLaw_90 : decode cX12_byLaw 90 = .ok (.iload_n 1, 1) := by decide +kernel
theorem dX12_byLaw_91 : decode cX12_byLaw 91 = .ok (.iconst 1, 1) := by decide +kernel
theorem dX12_byLaw_92 : decode cX12_byLaw 92 = .ok (.isub, 1) := by decide +kernel
theorem dX12_byLaw_93 : decode cX12_byLaw 93 = .ok (.aload_n 0, 1) := by decide +kernel
theorem dX12_byLaw_94 : decode cX12_byLaw 94 = .ok (.getfield 40, 3) := by decide +kernel
theorem dX12_byLaw_97 : decode cX12_byLaw 97 = .ok (.iload_n 2, 1) := by decide +kernel
theorem dX12_byLaw_98 : decode cX12_byLaw 98 = .ok (.aaload, 1) := by decide +kernel
theorem dX12_byLaw_99 : decode cX12_byLaw 99 = .ok (.iconst 0, 1) := by decide +kernel
theorem dX12_byLaw_100 : decode cX12_byLaw 100 = .ok (.iaload, 1) := by decide +kernel
theorem dX12_byLaw_101 : decode cX12_byLaw 101 = .ok (.aload_n 0, 1) := by decide +kernel
theorem dX12_byLaw_102 : decode cX12_byLaw 102 = .ok (.getfield 52, 3) := by decide +kernel
theorem dX12_byLaw_105 : decode cX12_byLaw 105 = .ok (.iload_n 1, 1) := by decide +kernel
theorem dX12_byLaw_106 : decode cX12_byLaw 106 = .ok (.iconst 1, 1) := by decide +kernel
theorem dX12_byLaw_107 : decode cX12_byLaw 107 = .ok (.isub, 1) := by decide +kernel
theorem dX12_byLaw_108 : decode cX12_byLaw 108 = .ok (.iaload, 1) := by decide +kernel
theorem dX12_byLaw_109 : decode cX12_byLaw 109 = .ok (.aload_n 0, 1) := by decide +kernel
theorem dX12_byLaw_110 : decode cX12_byLaw 110 = .ok (.getfield 52, 3) := by decide +kernel
theorem dX12_byLaw_113 : decode cX12_byLaw 113 = .ok (.iload_n 1, 1) := by decide +kernel
theorem dX12_byLaw_114 : decode cX12_byLaw 114 = .ok (.iaload, 1) := by decide +kernel
theorem dX12_byLaw_115 : decode cX12_byLaw 115 = .ok (.invokestatic 240, 3) := by decide +kernel
theorem dX12_byLaw_118 : decode cX12_byLaw 118 = .ok (.iastore, 1) := by decide +kernel
theorem dX12_byLaw_119 : decode cX12_byLaw 119 = .ok (.iinc 2 1, 3) := by decide +kernel
theorem dX12_byLaw_122 : decode cX12_byLaw 122 = .ok (.goto (-106), 3) := by decide +kernel
theorem dX12_byLaw_125 : decode cX12_byLaw 125 = .ok (.bipush 99, 2) := by decide +kernel
theorem dX12_byLaw_127 : decode cX12_byLaw 127 = .ok (.iconst 0, 1) := by decide +kernel
theorem dX12_byLaw_128 : decode cX12_byLaw 128 = .ok (.aload_n 0, 1) := by decide +kernel
theorem dX12_byLaw_129 : decode cX12_byLaw 129 = .ok (.getfield 52, 3) := by decide +kernel
theorem dX12_byLaw_132 : decode cX12_byLaw 132 = .ok (.iconst 0, 1) := by decide +kernel
theorem dX12_byLaw_133 : decode cX12_byLaw 133 = .ok (.iaload, 1) := by decide +kernel
theorem dX12_byLaw_134 : decode cX12_byLaw 134 = .ok (.invokestatic 237, 3) := by decide +kernel
theorem dX12_byLaw_137 : decode cX12_byLaw 137 = .ok (.invokestatic 234, 3) := by decide +kernel
theorem dX12_byLaw_140 : decode cX12_byLaw 140 = .ok (.ireturn, 1) := by decide +kernel
theorem dX12_stepHere_0 : decode cX12_stepHere 0 = .ok (.aload_n 0, 1) := by decide +kernel
theorem dX12_stepHere_1 : decode cX12_stepHere 1 = .ok (.bipush 18, 2) := by decide +kernel
theorem dX12_stepHere_3 : decode cX12_stepHere 3 = .ok (.iconst 5, 1) := by decide +kernel
theorem dX12_stepHere_4 : decode cX12_stepHere 4 = .ok (.iconst 1, 1) := by decide +kernel
theorem dX12_stepHere_5 : decode cX12_stepHere 5 = .ok (.iconst 4, 1) := by decide +kernel
theorem dX12_stepHere_6 : decode cX12_stepHere 6 = .ok (.iconst 0, 1) := by decide +kernel
theorem dX12_stepHere_7 : decode cX12_stepHere 7 = .ok (.iconst 0, 1) := by decide +kernel
theorem dX12_stepHere_8 : decode cX12_stepHere 8 = .ok (.invokevirtual 143, 3) := by decide +kernel
theorem dX12_stepHere_11 : decode cX12_stepHere 11 = .ok (.ifCond .eq 5, 3) := by decide +kernel
theorem dX12_stepHere_14 : decode cX12_stepHere 14 = .ok (.iconst 0, 1) := by decide +kernel
theorem dX12_stepHere_15 : decode cX12_stepHere 15 = .ok (.ireturn, 1) := by decide +kernel
theorem dX12_stepHere_16 : decode cX12_stepHere 16 = .ok (.aload_n 0, 1) := by decide +kernel
theorem dX12_stepHere_17 : decode cX12_stepHere 17 = .ok (.iconst 2, 1) := by decide +kernel
theorem dX12_stepHere_18 : decode cX12_stepHere 18 = .ok (.iconst 5, 1) := by decide +kernel
theorem dX12_stepHere_19 : decode cX12_stepHere 19 = .ok (.bipush 12, 2) := by decide +kernel
theorem dX12_stepHere_21 : decode cX12_stepHere 21 = .ok (.bipush 15, 2) := by decide +kernel
theorem dX12_stepHere_23 : decode cX12_stepHere 23 = .ok (.bipush 23, 2) := by decide +kernel
theorem dX12_stepHere_25 : decode cX12_stepHere 25 = .ok (.iconst 0, 1) := by decide +kernel
theorem dX12_stepHere_26 : decode cX12_stepHere 26 = .ok (.invokevirtual 143, 3) := by decide +kernel
theorem dX12_stepHere_29 : decode cX12_stepHere 29 = .ok (.ifCond .eq 5, 3) := by decide +kernel
theorem dX12_stepHere_32 : decode cX12_stepHere 32 = .ok (.iconst 1, 1) := by decide +kernel
theorem dX12_stepHere_33 : decode cX12_stepHere 33 = .ok (.ireturn, 1) := by decide +kernel
theorem dX12_stepHere_34 : decode cX12_stepHere 34 = .ok (.aload_n 0, 1) := by decide +kernel
theorem dX12_stepHere_35 : decode cX12_stepHere 35 = .ok (.bipush 8, 2) := by decide +kernel
theorem dX12_stepHere_37 : decode cX12_stepHere 37 = .ok (.iconst 5, 1) := by decide +kernel
theorem dX12_stepHere_38 : decode cX12_stepHere 38 = .ok (.iconst 1, 1) := by decide +kernel
theorem dX12_stepHere_39 : decode cX12_stepHere 39 = .ok (.bipush 18, 2) := by decide +kernel
theorem dX12_stepHere_41 : decode cX12_stepHere 41 = .ok (.iconst 0, 1) := by decide +kernel
theorem dX12_stepHere_42 : decode cX12_stepHere 42 = .ok (.iconst 0, 1) := by decide +kernel
theorem dX12_stepHere_43 : decode cX12_stepHere 43 = .ok (.invokevirtual 143, 3) := by decide +kernel
theorem dX12_stepHere_46 : decode cX12_stepHere 46 = .ok (.ifCond .eq 5, 3) := by decide +kernel
theorem dX12_stepHere_49 : decode cX12_stepHere 49 = .ok (.iconst 2, 1) := by decide +kernel
theorem dX12_stepHere_50 : decode cX12_stepHere 50 = .ok (.ireturn, 1) := by decide +kernel
theorem dX12_stepHere_51 : decode cX12_stepHere 51 = .ok (.aload_n 0, 1) := by decide +kernel
theorem dX12_stepHere_52 : decode cX12_stepHere 52 = .ok (.bipush 23, 2) := by decide +kernel
theorem dX12_stepHere_54 : decode cX12_stepHere 54 = .ok (.bipush 9, 2) := by decide +kernel
theorem dX12_stepHere_56 : decode cX12_stepHere 56 = .ok (.bipush 16, 2) := by decide +kernel
theorem dX12_stepHere_58 : decode cX12_stepHere 58 = .ok (.iconst 5, 1) := by decide +kernel
theorem dX12_stepHere_59 : decode cX12_stepHere 59 = .ok (.iconst 0, 1) := by decide +kernel
theorem dX12_stepHere_60 : decode cX12_stepHere 60 = .ok (.iconst 0, 1) := by decide +kernel
theorem dX12_stepHere_61 : decode cX12_stepHere 61 = .ok (.invokevirtual 143, 3) := by decide +kernel
theorem dX12_stepHere_64 : decode cX12_stepHere 64 = .ok (.ifCond .eq 5, 3) := by decide +kernel
theorem dX12_stepHere_67 : decode cX12_stepHere 67 = .ok (.iconst 3, 1) := by decide +kernel
theorem dX12_stepHere_68 : decode cX12_stepHere 68 = .ok (.ireturn, 1) := by decide +kernel
theorem dX12_stepHere_69 : decode cX12_stepHere 69 = .ok (.aload_n 0, 1) := by decide +kernel
theorem dX12_stepHere_70 : decode cX12_stepHere 70 = .ok (.bipush 20, 2) := by decide +kernel
theorem dX12_stepHere_72 : decode cX12_stepHere 72 = .ok (.iconst 5, 1) := by decide +kernel
theorem dX12_stepHere_73 : decode cX12_stepHere 73 = .ok (.iconst 1, 1) := by decide +kernel
theorem dX12_stepHere_74 : decode cX12_stepHere 74 = .ok (.bipush 18, 2) := by decide +kernel
theorem dX12_stepHere_76 : decode cX12_stepHere 76 = .ok (.iconst 0, 1) := by decide +kernel
theorem dX12_stepHere_77 : decode cX12_stepHere 77 = .ok (.iconst 0, 1) := by decide +kernel
theorem dX12_stepHere_78 : decode cX12_stepHere 78 = .ok (.invokevirtual 143, 3) := by decide +kernel
theorem dX12_stepHere_81 : decode cX12_stepHere 81 = .ok (.ifCond .eq 5, 3) := by decide +kernel
theorem dX12_stepHere_84 : decode cX12_stepHere 84 = .ok (.iconst 4, 1) := by decide +kernel
theorem dX12_stepHere_85 : decode cX12_stepHere 85 = .ok (.ireturn, 1) := by decide +kernel
theorem dX12_stepHere_86 : decode cX12_stepHere 86 = .ok (.aload_n 0, 1) := by decide +kernel
theorem dX12_stepHere_87 : decode cX12_stepHere 87 = .ok (.bipush 12, 2) := by decide +kernel
theorem dX12_stepHere_89 : decode cX12_stepHere 89 = .ok (.iconst 1, 1) := by decide +kernel
theorem dX12_stepHere_90 : decode cX12_stepHere 90 = .ok (.bipush 25, 2) := by decide +kernel
theorem dX12_stepHere_92 : decode cX12_stepHere 92 = .ok (.iconst 0, 1) := by decide +kernel
theorem dX12_stepHere_93 : decode cX12_stepHere 93 = .ok (.iconst 0, 1) := by decide +kernel
theorem dX12_stepHere_94 : decode cX12_stepHere 94 = .ok (.iconst 0, 1) := by decide +kernel
theorem dX12_stepHere_95 : decode cX12_stepHere 95 = .ok (.invokevirtual 143, 3) := by decide +kernel
theorem dX12_stepHere_98 : decode cX12_stepHere 98 = .ok (.ifCond .eq 5, 3) := by decide +kernel
theorem dX12_stepHere_101 : decode cX12_stepHere 101 = .ok (.iconst 5, 1) := by decide +kernel
theorem dX12_stepHere_102 : decode cX12_stepHere 102 = .ok (.ireturn, 1) := by decide +kernel
theorem dX12_stepHere_103 : decode cX12_stepHere 103 = .ok (.aload_n 0, 1) := by decide +kernel
theorem dX12_stepHere_104 : decode cX12_stepHere 104 = .ok (.iconst 3, 1) := by decide +kernel
theorem dX12_stepHere_105 : decode cX12_stepHere 105 = .ok (.bipush 15, 2) := by decide +kernel
theorem dX12_stepHere_107 : decode cX12_stepHere 107 = .ok (.bipush 16, 2) := by decide +kernel
theorem dX12_stepHere_109 : decode cX12_stepHere 109 = .ok (.bipush 25, 2) := by decide +kernel
theorem dX12_stepHere_111 : decode cX12_stepHere 111 = .ok (.iconst 0, 1) := by decide +kernel
theorem dX12_stepHere_112 : decode cX12_stepHere 112 = .ok (.iconst 0, 1) := by decide +kernel
theorem dX12_stepHere_113 : decode cX12_stepHere 113 = .ok (.invokevirtual 143, 3) := by decide +kernel
theorem dX12_stepHere_116 : decode cX12_stepHere 116 = .ok (.ifCond .eq 6, 3) := by decide +kernel
theorem dX12_stepHere_119 : decode cX12_stepHere 119 = .ok (.bipush 6, 2) := by decide +kernel
theorem dX12_stepHere_121 : decode cX12_stepHere 121 = .ok (.ireturn, 1) := by decide +kernel
theorem dX12_stepHere_122 : decode cX12_stepHere 122 = .ok (.aload_n 0, 1) := by decide +kernel
theorem dX12_stepHere_123 : decode cX12_stepHere 123 = .ok (.bipush 20, 2) := by decide +kernel
theorem dX12_stepHere_125 : decode cX12_stepHere 125 = .ok (.bipush 21, 2) := by decide +kernel
theorem dX12_stepHere_127 : decode cX12_stepHere 127 = .ok (.bipush 14, 2) := by decide +kernel
theorem dX12_stepHere_129 : decode cX12_stepHere 129 = .ok (.iconst 5, 1) := by decide +kernel
theorem dX12_stepHere_130 : decode cX12_stepHere 130 = .ok (.iconst 0, 1) := by decide +kernel
theorem dX12_stepHere_131 : decode cX12_stepHere 131 = .ok (.iconst 0, 1) := by decide +kernel
theorem dX12_stepHere_132 : decode cX12_stepHere 132 = .ok (.invokevirtual 143, 3) := by decide +kernel
theorem dX12_stepHere_135 : decode cX12_stepHere 135 = .ok (.ifCond .eq 6, 3) := by decide +kernel
theorem dX12_stepHere_138 : decode cX12_stepHere 138 = .ok (.bipush 7, 2) := by decide +kernel
theorem dX12_stepHere_140 : decode cX12_stepHere 140 = .ok (.ireturn, 1) := by decide +kernel
theorem dX12_stepHere_141 : decode cX12_stepHere 141 = .ok (.aload_n 0, 1) := by decide +kernel
theorem dX12_stepHere_142 : decode cX12_stepHere 142 = .ok (.iconst 4, 1) := by decide +kernel
theorem dX12_stepHere_143 : decode cX12_stepHere 143 = .ok (.iconst 1, 1) := by decide +kernel
theorem dX12_stepHere_144 : decode cX12_stepHere 144 = .ok (.bipush 25, 2) := by decide +kernel
theorem dX12_stepHere_146 : decode cX12_stepHere 146 = .ok (.iconst 0, 1) := by decide +kernel
theorem dX12_stepHere_147 : decode cX12_stepHere 147 = .ok (.iconst 0, 1) := by decide +kernel
theorem dX12_stepHere_148 : decode cX12_stepHere 148 = .ok (.iconst 0, 1) := by decide +kernel
theorem dX12_stepHere_149 : decode cX12_stepHere 149 = .ok (.invokevirtual 143, 3) := by decide +kernel
theorem dX12_stepHere_152 : decode cX12_stepHere 152 = .ok (.ifCond .eq 6, 3) := by decide +kernel
theorem dX12_stepHere_155 : decode cX12_stepHere 155 = .ok (.bipush 8, 2) := by decide +kernel
theorem dX12_stepHere_157 : decode cX12_stepHere 157 = .ok (.ireturn, 1) := by decide +kernel
theorem dX12_stepHere_158 : decode cX12_stepHere 158 = .ok (.aload_n 0, 1) := by decide +kernel
theorem dX12_stepHere_159 : decode cX12_stepHere 159 = .ok (.iconst 1, 1) := by decide +kernel
theorem dX12_stepHere_160 : decode cX12_stepHere 160 = .ok (.bipush 7, 2) := by decide +kernel
theorem dX12_stepHere_162 : decode cX12_stepHere 162 = .ok (.iconst 1, 1) := by decide +kernel
theorem dX12_stepHere_163 : decode cX12_stepHere 163 = .ok (.bipush 9, 2) := by decide +kernel
theorem dX12_stepHere_165 : decode cX12_stepHere 165 = .ok (.bipush 14, 2) := by decide +kernel
theorem dX12_stepHere_167 : decode cX12_stepHere 167 = .ok (.iconst 0, 1) := by decide +kernel
theorem dX12_stepHere_168 : decode cX12_stepHere 168 = .ok (.invokevirtual 143, 3) := by decide +kernel
theorem dX12_stepHere_171 : decode cX12_stepHere 171 = .ok (.ifCond .eq 8, 3) := by decide +kernel
theorem dX12_stepHere_174 : decode cX12_stepHere 174 = .ok (.bipush 9, 2) := by decide +kernel
theorem dX12_stepHere_176 : decode cX12_stepHere 176 = .ok (.goto 4, 3) := by decide +kernel
theorem dX12_stepHere_179 : decode cX12_stepHere 179 = .ok (.iconst (-1), 1) := by decide +kernel
theorem dX12_stepHere_180 : decode cX12_stepHere 180 = .ok (.ireturn, 1) := by decide +kernel
theorem dX12_penHere_0 : decode cX12_penHere 0 = .ok (.aload_n 0, 1) := by decide +kernel
theorem dX12_penHere_1 : decode cX12_penHere 1 = .ok (.iconst 0, 1) := by decide +kernel
theorem dX12_penHere_2 : decode cX12_penHere 2 = .ok (.aload_n 0, 1) := by decide +kernel
theorem dX12_penHere_3 : decode cX12_penHere 3 = .ok (.getfield 23, 3) := by decide +kernel
theorem dX12_penHere_6 : decode cX12_penHere 6 = .ok (.iconst 0, 1) := by decide +kernel
theorem dX12_penHere_7 : decode cX12_penHere 7 = .ok (.iaload, 1) := by decide +kernel
theorem dX12_penHere_8 : decode cX12_penHere 8 = .ok (.iconst 1, 1) := by decide +kernel
theorem dX12_penHere_9 : decode cX12_penHere 9 = .ok (.isub, 1) := by decide +kernel
theorem dX12_penHere_10 : decode cX12_penHere 10 = .ok (.invokevirtual 159, 3) := by decide +kernel
theorem dX12_penHere_13 : decode cX12_penHere 13 = .ok (.ireturn, 1) := by decide +kernel
theorem dX12_numbers_0 : decode cX12_numbers 0 = .ok (.aload_n 1, 1) := by decide +kernel
theorem dX12_numbers_1 : decode cX12_numbers 1 = .ok (.iconst 0, 1) := by decide +kernel
theorem dX12_numbers_2 : decode cX12_numbers 2 = .ok (.iaload, 1) := by decide +kernel
theorem dX12_numbers_3 : decode cX12_numbers 3 = .ok (.istore_n 2, 1) := by decide +kernel
theorem dX12_numbers_4 : decode cX12_numbers 4 = .ok (.iload_n 2, 1) := by decide +kernel
theorem dX12_numbers_5 : decode cX12_numbers 5 = .ok (.iconst 2, 1) := by decide +kernel
theorem dX12_numbers_6 : decode cX12_numbers 6 = .ok (.if_icmp .ne 19, 3) := by decide +kernel
theorem dX12_numbers_9 : decode cX12_numbers 9 = .ok (.aload_n 1, 1) := by decide +kernel
theorem dX12_numbers_10 : decode cX12_numbers 10 = .ok (.iconst 1, 1) := by decide +kernel
theorem dX12_numbers_11 : decode cX12_numbers 11 = .ok (.aload_n 0, 1) := by decide +kernel
theorem dX12_numbers_12 : decode cX12_numbers 12 = .ok (.iconst 0, 1) := by decide +kernel
theorem dX12_numbers_13 : decode cX12_numbers 13 = .ok (.aload_n 0, 1) := by decide +kernel
theorem dX12_numbers_14 : decode cX12_numbers 14 = .ok (.getfield 23, 3) := by decide +kernel
theorem dX12_numbers_17 : decode cX12_numbers 17 = .ok (.iconst 1, 1) := by decide +kernel
theorem dX12_numbers_18 : decode cX12_numbers 18 = .ok (.iaload, 1) := by decide +kernel
theorem dX12_numbers_19 : decode cX12_numbers 19 = .ok (.iconst 1, 1) := by decide +kernel
theorem dX12_numbers_20 : decode cX12_numbers 20 = .ok (.isub, 1) := by decide +kernel
theorem dX12_numbers_21 : decode cX12_numbers 21 = .ok (.invokevirtual 159, 3) := by decide +kernel
theorem dX12_numbers_24 : decode cX12_numbers 24 = .ok (.iastore, 1) := by decide +kernel
theorem dX12_numbers_25 : decode cX12_numbers 25 = .ok (.iload_n 2, 1) := by decide +kernel
theorem dX12_numbers_26 : decode cX12_numbers 26 = .ok (.iconst 2, 1) := by decide +kernel
theorem dX12_numbers_27 : decode cX12_numbers 27 = .ok (.if_icmp .eq 16, 3) := by decide +kernel
theorem dX12_numbers_30 : decode cX12_numbers 30 = .ok (.iload_n 2, 1) := by decide +kernel
theorem dX12_numbers_31 : decode cX12_numbers 31 = .ok (.bipush 8, 2) := by decide +kernel
theorem dX12_numbers_33 : decode cX12_numbers 33 = .ok (.if_icmp .ge 10, 3) := by decide +kernel
theorem dX12_numbers_36 : decode cX12_numbers 36 = .ok (.aload_n 1, 1) := by decide +kernel
theorem dX12_numbers_37 : decode cX12_numbers 37 = .ok (.iconst 1, 1) := by decide +kernel
theorem dX12_numbers_38 : decode cX12_numbers 38 = .ok (.aload_n 0, 1) := by decide +kernel
theorem dX12_numbers_39 : decode cX12_numbers 39 = .ok (.invokevirtual 244, 3) := by decide +kernel
theorem dX12_numbers_42 : decode cX12_numbers 42 = .ok (.iastore, 1) := by decide +kernel
theorem dX12_numbers_43 : decode cX12_numbers 43 = .ok (.iload_n 2, 1) := by decide +kernel
theorem dX12_numbers_44 : decode cX12_numbers 44 = .ok (.iconst 2, 1) := by decide +kernel
theorem dX12_numbers_45 : decode cX12_numbers 45 = .ok (.if_icmp .ge 13, 3) := by decide +kernel
theorem dX12_numbers_48 : decode cX12_numbers 48 = .ok (.aload_n 1, 1) := by decide +kernel
theorem dX12_numbers_49 : decode cX12_numbers 49 = .ok (.iconst 2, 1) := by decide +kernel
theorem dX12_numbers_50 : decode cX12_numbers 50 = .ok (.aload_n 0, 1) := by decide +kernel
theorem dX12_numbers_51 : decode cX12_numbers 51 = .ok (.iconst 0, 1) := by decide +kernel
theorem dX12_numbers_52 : decode cX12_numbers 52 = .ok (.ldc 247, 2) := by decide +kernel
theorem dX12_numbers_54 : decode cX12_numbers 54 = .ok (.invokevirtual 159, 3) := by decide +kernel
theorem dX12_numbers_57 : decode cX12_numbers 57 = .ok (.iastore, 1) := by decide +kernel
theorem dX12_numbers_58 : decode cX12_numbers 58 = .ok (.iload_n 2, 1) := by decide +kernel
theorem dX12_numbers_59 : decode cX12_numbers 59 = .ok (.bipush 6, 2) := by decide +kernel
theorem dX12_numbers_61 : decode cX12_numbers 61 = .ok (.if_icmp .ne 10, 3) := by decide +kernel
theorem dX12_numbers_64 : decode cX12_numbers 64 = .ok (.aload_n 1, 1) := by decide +kernel
theorem dX12_numbers_65 : decode cX12_numbers 65 = .ok (.iconst 2, 1) := by decide +kernel
theorem dX12_numbers_66 : decode cX12_numbers 66 = .ok (.aload_n 0, 1) := by decide +kernel
theorem dX12_numbers_67 : decode cX12_numbers 67 = .ok (.invokevirtual 244, 3) := by decide +kernel
theorem dX12_numbers_70 : decode cX12_numbers 70 = .ok (.iastore, 1) := by decide +kernel
theorem dX12_numbers_71 : decode cX12_numbers 71 = .ok (.iload_n 2, 1) := by decide +kernel
theorem dX12_numbers_72 : decode cX12_numbers 72 = .ok (.iconst 5, 1) := by decide +kernel
theorem dX12_numbers_73 : decode cX12_numbers 73 = .ok (.if_icmp .ne 13, 3) := by decide +kernel
theorem dX12_numbers_76 : decode cX12_numbers 76 = .ok (.aload_n 1, 1) := by decide +kernel
theorem dX12_numbers_77 : decode cX12_numbers 77 = .ok (.iconst 2, 1) := by decide +kernel
theorem dX12_numbers_78 : decode cX12_numbers 78 = .ok (.aload_n 0, 1) := by decide +kernel
theorem dX12_numbers_79 : decode cX12_numbers 79 = .ok (.iconst 0, 1) := by decide +kernel
theorem dX12_numbers_80 : decode cX12_numbers 80 = .ok (.bipush 24, 2) := by decide +kernel
theorem dX12_numbers_82 : decode cX12_numbers 82 = .ok (.invokevirtual 159, 3) := by decide +kernel
theorem dX12_numbers_85 : decode cX12_numbers 85 = .ok (.iastore, 1) := by decide +kernel
theorem dX12_numbers_86 : decode cX12_numbers 86 = .ok (.iload_n 2, 1) := by decide +kernel
theorem dX12_numbers_87 : decode cX12_numbers 87 = .ok (.iconst 5, 1) := by decide +kernel
theorem dX12_numbers_88 : decode cX12_numbers 88 = .ok (.if_icmp .eq 9, 3) := by decide +kernel
theorem dX12_numbers_91 : decode cX12_numbers 91 = .ok (.iload_n 2, 1) := by decide +kernel
theorem dX12_numbers_92 : decode cX12_numbers 92 = .ok (.bipush 6, 2) := by decide +kernel
theorem dX12_numbers_94 : decode cX12_numbers 94 = .ok (.if_icmp .ne 13, 3) := by decide +kernel
theorem dX12_numbers_97 : decode cX12_numbers 97 = .ok (.aload_n 1, 1) := by decide +kernel
theorem dX12_numbers_98 : decode cX12_numbers 98 = .ok (.iconst 3, 1) := by decide +kernel
theorem dX12_numbers_99 : decode cX12_numbers 99 = .ok (.aload_n 0, 1) := by decide +kernel
theorem dX12_numbers_100 : decode cX12_numbers 100 = .ok (.iconst 0, 1) := by decide +kernel
theorem dX12_numbers_101 : decode cX12_numbers 101 = .ok (.bipush 24, 2) := by decide +kernel
theorem dX12_numbers_103 : decode cX12_numbers 103 = .ok (.invokevirtual 159, 3) := by decide +kernel
theorem dX12_numbers_106 : decode cX12_numbers 106 = .ok (.iastore, 1) := by decide +kernel
theorem dX12_numbers_107 : decode cX12_numbers 107 = .ok (.iload_n 2, 1) := by decide +kernel
theorem dX12_numbers_108 : decode cX12_numbers 108 = .ok (.bipush 7, 2) := by decide +kernel
theorem dX12_numbers_110 : decode cX12_numbers 110 = .ok (.if_icmp .ne 23, 3) := by decide +kernel
theorem dX12_numbers_113 : decode cX12_numbers 113 = .ok (.aload_n 1, 1) := by decide +kernel
theorem dX12_numbers_114 : decode cX12_numbers 114 = .ok (.iconst 2, 1) := by decide +kernel
theorem dX12_numbers_115 : decode cX12_numbers 115 = .ok (.aload_n 0, 1) := by decide +kernel
theorem dX12_numbers_116 : decode cX12_numbers 116 = .ok (.iconst 0, 1) := by decide +kernel
theorem dX12_numbers_117 : decode cX12_numbers 117 = .ok (.bipush 99, 2) := by decide +kernel
theorem dX12_numbers_119 : decode cX12_numbers 119 = .ok (.invokevirtual 159, 3) := by decide +kernel
theorem dX12_numbers_122 : decode cX12_numbers 122 = .ok (.iastore, 1) := by decide +kernel
theorem dX12_numbers_123 : decode cX12_numbers 123 = .ok (.aload_n 1, 1) := by decide +kernel
theorem dX12_numbers_124 : decode cX12_numbers 124 = .ok (.iconst 3, 1) := by decide +kernel
theorem dX12_numbers_125 : decode cX12_numbers 125 = .ok (.aload_n 0, 1) := by decide +kernel
theorem dX12_numbers_126 : decode cX12_numbers 126 = .ok (.iconst 0, 1) := by decide +kernel
theorem dX12_numbers_127 : decode cX12_numbers 127 = .ok (.bipush 99, 2) := by decide +kernel
theorem dX12_numbers_129 : decode cX12_numbers 129 = .ok (.invokevirtual 159, 3) := by decide +kernel
theorem dX12_numbers_132 : decode cX12_numbers 132 = .ok (.iastore, 1) := by decide +kernel
theorem dX12_numbers_133 : decode cX12_numbers 133 = .ok (.return_, 1) := by decide +kernel
theorem dX12_readsStep_0 : decode cX12_readsStep 0 = .ok (.aload_n 0, 1) := by decide +kernel
theorem dX12_readsStep_1 : decode cX12_readsStep 1 = .ok (.invokevirtual 248, 3) := by decide +kernel
theorem dX12_readsStep_4 : decode cX12_readsStep 4 = .ok (.istore_n 1, 1) := by decide +kernel
theorem dX12_readsStep_5 : decode cX12_readsStep 5 = .ok (.iload_n 1, 1) := by decide +kernel
theorem dX12_readsStep_6 : decode cX12_readsStep 6 = .ok (.iconst (-1), 1) := by decide +kernel
theorem dX12_readsStep_7 : decode cX12_readsStep 7 = .ok (.if_icmp .ne 12, 3) := by decide +kernel
theorem dX12_readsStep_10 : decode cX12_readsStep 10 = .ok (.aload_n 0, 1) := by decide +kernel
theorem dX12_readsStep_11 : decode cX12_readsStep 11 = .ok (.iconst 1, 1) := by decide +kernel
theorem dX12_readsStep_12 : decode cX12_readsStep 12 = .ok (.aload_n 0, 1) := by decide +kernel
theorem dX12_readsStep_13 : decode cX12_readsStep 13 = .ok (.getfield 103, 3) := by decide +kernel
theorem dX12_readsStep_16 : decode cX12_readsStep 16 = .ok (.invokevirtual 123, 3) := by decide +kernel
theorem dX12_readsStep_19 : decode cX12_readsStep 19 = .ok (.iload_n 1, 1) := by decide +kernel
theorem dX12_readsStep_20 : decode cX12_readsStep 20 = .ok (.bipush 9, 2) := by decide +kernel
theorem dX12_readsStep_22 : decode cX12_readsStep 22 = .ok (.if_icmp .ne 11, 3) := by decide +kernel
theorem dX12_readsStep_25 : decode cX12_readsStep 25 = .ok (.aload_n 0, 1) := by decide +kernel
theorem dX12_readsStep_26 : decode cX12_readsStep 26 = .ok (.invokevirtual 224, 3) := by decide +kernel
theorem dX12_readsStep_29 : decode cX12_readsStep 29 = .ok (.ifCond .ne 4, 3) := by decide +kernel
theorem dX12_readsStep_32 : decode cX12_readsStep 32 = .ok (.return_, 1) := by decide +kernel
theorem dX12_readsStep_33 : decode cX12_readsStep 33 = .ok (.aload_n 0, 1) := by decide +kernel
theorem dX12_readsStep_34 : decode cX12_readsStep 34 = .ok (.getfield 110, 3) := by decide +kernel
theorem dX12_readsStep_37 : decode cX12_readsStep 37 = .ok (.ifCond .eq 4, 3) := by decide +kernel
theorem dX12_readsStep_40 : decode cX12_readsStep 40 = .ok (.return_, 1) := by decide +kernel
theorem dX12_readsStep_41 : decode cX12_readsStep 41 = .ok (.aload_n 0, 1) := by decide +kernel
theorem dX12_readsStep_42 : decode cX12_readsStep 42 = .ok (.invokevirtual 147, 3) := by decide +kernel
theorem dX12_readsStep_45 : decode cX12_readsStep 45 = .ok (.aload_n 0, 1) := by decide +kernel
theorem dX12_readsStep_46 : decode cX12_readsStep 46 = .ok (.getfield 64, 3) := by decide +kernel
theorem dX12_readsStep_49 : decode cX12_readsStep 49 = .ok (.aload_n 0, 1) := by decide +kernel
theorem dX12_readsStep_50 : decode cX12_readsStep 50 = .ok (.getfield 251, 3) := by decide +kernel
theorem dX12_readsStep_53 : decode cX12_readsStep 53 = .ok (.aaload, 1) := by decide +kernel
theorem dX12_readsStep_54 : decode cX12_readsStep 54 = .ok (.astore_n 2, 1) := by decide +kernel
theorem dX12_readsStep_55 : decode cX12_readsStep 55 = .ok (.aload_n 0, 1) := by decide +kernel
theorem dX12_readsStep_56 : decode cX12_readsStep 56 = .ok (.dup, 1) := by decide +kernel
theorem dX12_readsStep_57 : decode cX12_readsStep 57 = .ok (.getfield 251, 3) := by decide +kernel
theorem dX12_readsStep_60 : decode cX12_readsStep 60 = .ok (.iconst 1, 1) := by decide +kernel
theorem dX12_readsStep_61 : decode cX12_readsStep 61 = .ok (.iadd, 1) := by decide +kernel
theorem dX12_readsStep_62 : decode cX12_readsStep 62 = .ok (.putfield 251, 3) := by decide +kernel
theorem dX12_readsStep_65 : decode cX12_readsStep 65 = .ok (.aload_n 2, 1) := by decide +kernel
theorem dX12_readsStep_66 : decode cX12_readsStep 66 = .ok (.iconst 0, 1) := by decide +kernel
theorem dX12_readsStep_67 : decode cX12_readsStep 67 = .ok (.iload_n 1, 1) := by decide +kernel
theorem dX12_readsStep_68 : decode cX12_readsStep 68 = .ok (.iastore, 1) := by decide +kernel
theorem dX12_readsStep_69 : decode cX12_readsStep 69 = .ok (.aload_n 0, 1) := by decide +kernel
theorem dX12_readsStep_70 : decode cX12_readsStep 70 = .ok (.aload_n 2, 1) := by decide +kernel
theorem dX12_readsStep_71 : decode cX12_readsStep 71 = .ok (.invokevirtual 254, 3) := by decide +kernel
theorem dX12_readsStep_74 : decode cX12_readsStep 74 = .ok (.iload_n 1, 1) := by decide +kernel
theorem dX12_readsStep_75 : decode cX12_readsStep 75 = .ok (.bipush 9, 2) := by decide +kernel
theorem dX12_readsStep_77 : decode cX12_readsStep 77 = .ok (.if_icmp .ne 70, 3) := by decide +kernel
theorem dX12_readsStep_80 : decode cX12_readsStep 80 = .ok (.aload_n 2, 1) := by decide +kernel
theorem dX12_readsStep_81 : decode cX12_readsStep 81 = .ok (.iconst 1, 1) := by decide +kernel
theorem dX12_readsStep_82 : decode cX12_readsStep 82 = .ok (.aload_n 0, 1) := by decide +kernel
theorem dX12_readsStep_83 : decode cX12_readsStep 83 = .ok (.iconst 0, 1) := by decide +kernel
theorem dX12_readsStep_84 : decode cX12_readsStep 84 = .ok (.bipush 60, 2) := by decide +kernel
theorem dX12_readsStep_86 : decode cX12_readsStep 86 = .ok (.invokevirtual 159, 3) := by decide +kernel
theorem dX12_readsStep_89 : decode cX12_readsStep 89 = .ok (.iastore, 1) := by decide +kernel
theorem dX12_readsStep_90 : decode cX12_readsStep 90 = .ok (.aload_n 0, 1) := by decide +kernel
theorem dX12_readsStep_91 : decode cX12_readsStep 91 = .ok (.bipush 91, 2) := by decide +kernel
theorem dX12_readsStep_93 : decode cX12_readsStep 93 = .ok (.invokevirtual 163, 3) := by decide +kernel
theorem dX12_readsStep_96 : decode cX12_readsStep 96 = .ok (.aload_n 0, 1) := by decide +kernel
theorem dX12_readsStep_97 : decode cX12_readsStep 97 = .ok (.invokevirtual 116, 3) := by decide +kernel
theorem dX12_readsStep_100 : decode cX12_readsStep 100 = .ok (.aload_n 0, 1) := by decide +kernel
theorem dX12_readsStep_101 : decode cX12_readsStep 101 = .ok (.getfield 110, 3) := by decide +kernel
theorem dX12_readsStep_104 : decode cX12_readsStep 104 = .ok (.ifCond .ne 27, 3) := by decide +kernel
theorem dX12_readsStep_107 : decode cX12_readsStep 107 = .ok (.aload_n 0, 1) := by decide +kernel
theorem dX12_readsStep_108 : decode cX12_readsStep 108 = .ok (.aload_n 0, 1) := by decide +kernel
theorem dX12_readsStep_109 : decode cX12_readsStep 109 = .ok (.getfield 103, 3) := by decide +kernel
theorem dX12_readsStep_112 : decode cX12_readsStep 112 = .ok (.invokevirtual 106, 3) := by decide +kernel
theorem dX12_readsStep_115 : decode cX12_readsStep 115 = .ok (.bipush 93, 2) := by decide +kernel
theorem dX12_readsStep_117 : decode cX12_readsStep 117 = .ok (.if_icmp .eq 14, 3) := by decide +kernel
theorem dX12_readsStep_120 : decode cX12_readsStep 120 = .ok (.aload_n 0, 1) := by decide +kernel
theorem dX12_readsStep_121 : decode cX12_readsStep 121 = .ok (.invokevirtual 258, 3) := by decide +kernel
theorem dX12_readsStep_124 : decode cX12_readsStep 124 = .ok (.aload_n 0, 1) := by decide +kernel
theorem dX12_readsStep_125 : decode cX12_readsStep 125 = .ok (.invokevirtual 116, 3) := by decide +kernel
theorem dX12_readsStep_128 : decode cX12_readsStep 128 = .ok (.goto (-28), 3) := by decide +kernel
theorem dX12_readsStep_131 : decode cX12_readsStep 131 = .ok (.aload_n 0, 1) := by decide +kernel
theorem dX12_readsStep_132 : decode cX12_readsStep 132 = .ok (.bipush 93, 2) := by decide +kernel
theorem dX12_readsStep_134 : decode cX12_readsStep 134 = .ok (.invokevirtual 163, 3) := by decide +kernel
theorem dX12_readsStep_137 : decode cX12_readsStep 137 = .ok (.aload_n 0, 1) := by decide +kernel
theorem dX12_readsStep_138 : decode cX12_readsStep 138 = .ok (.dup, 1) := by decide +kernel
theorem dX12_readsStep_139 : decode cX12_readsStep 139 = .ok (.getfield 153, 3) := by decide +kernel
theorem dX12_readsStep_142 : decode cX12_readsStep 142 = .ok (.iconst 1, 1) := by decide +kernel
theorem dX12_readsStep_143 : decode cX12_readsStep 143 = .ok (.isub, 1) := by decide +kernel
theorem dX12_readsStep_144 : decode cX12_readsStep 144 = .ok (.putfield 153, 3) := by decide +kernel
theorem dX12_readsStep_147 : decode cX12_readsStep 147 = .ok (.aload_n 2, 1) := by decide +kernel
theorem dX12_readsStep_148 : decode cX12_readsStep 148 = .ok (.iconst 4, 1) := by decide +kernel
theorem dX12_readsStep_149 : decode cX12_readsStep 149 = .ok (.aload_n 0, 1) := by decide +kernel
theorem dX12_readsStep_150 : decode cX12_readsStep 150 = .ok (.getfield 251, 3) := by decide +kernel
theorem dX12_readsStep_153 : decode cX12_readsStep 153 = .ok (.iastore, 1) := by decide +kernel
theorem dX12_readsStep_154 : decode cX12_readsStep 154 = .ok (.aload_n 0, 1) := by decide +kernel
theorem dX12_readsStep_155 : decode cX12_readsStep 155 = .ok (.bipush 59, 2) := by decide +kernel
theorem dX12_readsStep_157 : decode cX12_readsStep 157 = .ok (.invokevirtual 163, 3) := by decide +kernel
theorem dX12_readsStep_160 : decode cX12_readsStep 160 = .ok (.return_, 1) := by decide +kernel
theorem dX12_chain_0 : decode cX12_chain 0 = .ok (.aload_n 0, 1) := by decide +kernel
theorem dX12_chain_1 : decode cX12_chain 1 = .ok (.iconst 0, 1) := by decide +kernel
theorem dX12_chain_2 : decode cX12_chain 2 = .ok (.putfield 94, 3) := by decide +kernel
theorem dX12_chain_5 : decode cX12_chain 5 = .ok (.aload_n 0, 1) := by decide +kernel
theorem dX12_chain_6 : decode cX12_chain 6 = .ok (.iload_n 1, 1) := by decide +kernel
theorem dX12_chain_7 : decode cX12_chain 7 = .ok (.iconst 0, 1) := by decide +kernel
theorem dX12_chain_8 : decode cX12_chain 8 = .ok (.aload_n 0, 1) := by decide +kernel
theorem dX12_chain_9 : decode cX12_chain 9 = .ok (.getfield 97, 3) := by decide +kernel
theorem dX12_chain_12 : decode cX12_chain 12 = .ok (.invokestatic 128, 3) := by decide +kernel
theorem dX12_chain_15 : decode cX12_chain 15 = .ok (.ifCond .eq 9, 3) := by decide +kernel
theorem dX12_chain_18 : decode cX12_chain 18 = .ok (.iload_n 1, 1) := by decide +kernel
theorem dX12_chain_19 : decode cX12_chain 19 = .ok (.bipush 60, 2) := by decide +kernel
theorem dX12_chain_21 : decode cX12_chain 21 = .ok (.if_icmp .le 7, 3) := by decide +kernel
theorem dX12_chain_24 : decode cX12_chain 24 = .ok (.iconst 1, 1) := by decide +kernel
theorem dX12_chain_25 : decode cX12_chain 25 = .ok (.goto 4, 3) := by decide +kernel
theorem dX12_chain_28 : decode cX12_chain 28 = .ok (.iconst 0, 1) := by decide +kernel
theorem dX12_chain_29 : decode cX12_chain 29 = .ok (.iconst 1, 1) := by decide +kernel
theorem dX12_chain_30 : decode cX12_chain 30 = .ok (.iconst 1, 1) := by decide +kernel
theorem dX12_chain_31 : decode cX12_chain 31 = .ok (.invokevirtual 167, 3) := by decide +kernel
theorem dX12_chain_34 : decode cX12_chain 34 = .ok (.ifCond .eq 5, 3) := by decide +kernel
theorem dX12_chain_37 : decode cX12_chain 37 = .ok (.iconst 0, 1) := by decide +kernel
theorem dX12_chain_38 : decode cX12_chain 38 = .ok (.ireturn, 1) := by decide +kernel
theorem dX12_chain_39 : decode cX12_chain 39 = .ok (.aload_n 0, 1) := by decide +kernel
theorem dX12_chain_40 : decode cX12_chain 40 = .ok (.iload_n 1, 1) := by decide +kernel
theorem dX12_chain_41 : decode cX12_chain 41 = .ok (.invokevirtual 171, 3) := by decide +kernel
theorem dX12_chain_44 : decode cX12_chain 44 = .ok (.iconst 0, 1) := by decide +kernel
theorem dX12_chain_45 : decode cX12_chain 45 = .ok (.istore_n 2, 1) := by decide +kernel
theorem dX12_chain_46 : decode cX12_chain 46 = .ok (.aload_n 0, 1) := by decide +kernel
theorem dX12_chain_47 : decode cX12_chain 47 = .ok (.getfield 110, 3) := by decide +kernel
theorem dX12_chain_50 : decode cX12_chain 50 = .ok (.ifCond .ne 79, 3) := by decide +kernel
theorem dX12_chain_53 : decode cX12_chain 53 = .ok (.aload_n 0, 1) := by decide +kernel
theorem dX12_chain_54 : decode cX12_chain 54 = .ok (.getfield 103, 3) := by decide +kernel
theorem dX12_chain_57 : decode cX12_chain 57 = .ok (.aload_n 0, 1) := by decide +kernel
theorem dX12_chain_58 : decode cX12_chain 58 = .ok (.getfield 100, 3) := by decide +kernel
theorem dX12_chain_61 : decode cX12_chain 61 = .ok (.if_icmp .ge 68, 3) := by decide +kernel
theorem dX12_chain_64 : decode cX12_chain 64 = .ok (.aload_n 0, 1) := by decide +kernel
theorem dX12_chain_65 : decode cX12_chain 65 = .ok (.invokevirtual 116, 3) := by decide +kernel
theorem dX12_chain_68 : decode cX12_chain 68 = .ok (.aload_n 0, 1) := by decide +kernel
theorem dX12_chain_69 : decode cX12_chain 69 = .ok (.getfield 103, 3) := by decide +kernel
theorem dX12_chain_72 : decode cX12_chain 72 = .ok (.istore_n 3, 1) := by decide +kernel
theorem dX12_chain_73 : decode cX12_chain 73 = .ok (.aload_n 0, 1) := by decide +kernel
theorem dX12_chain_74 : decode cX12_chain 74 = .ok (.invokevirtual 244, 3) := by decide +kernel
theorem dX12_chain_77 : decode cX12_chain 77 = .ok (.istore 4, 2) := by decide +kernel
theorem dX12_chain_79 : decode cX12_chain 79 = .ok (.aload_n 0, 1) := by decide +kernel
theorem dX12_chain_80 : decode cX12_chain 80 = .ok (.getfield 110, 3) := by decide +kernel
theorem dX12_chain_83 : decode cX12_chain 83 = .ok (.ifCond .ne 15, 3) := by decide +kernel
theorem dX12_chain_86 : decode cX12_chain 86 = .ok (.iload_n 2, 1) := by decide +kernel
theorem dX12_chain_87 : decode cX12_chain 87 = .ok (.bipush 12, 2) := by decide +kernel
theorem dX12_chain_89 : decode cX12_chain 89 = .ok (.if_icmp .ne 9, 3) := by decide +kernel
theorem dX12_chain_92 : decode cX12_chain 92 = .ok (.aload_n 0, 1) := by decide +kernel
theorem dX12_chain_93 : decode cX12_chain 93 = .ok (.iconst 3, 1) := by decide +kernel
theorem dX12_chain_94 : decode cX12_chain 94 = .ok (.iload_n 3, 1) := by decide +kernel
theorem dX12_chain_95 : decode cX12_chain 95 = .ok (.invokevirtual 123, 3) := by decide +kernel
theorem dX12_chain_98 : decode cX12_chain 98 = .ok (.aload_n 0, 1) := by decide +kernel
theorem dX12_chain_99 : decode cX12_chain 99 = .ok (.bipush 59, 2) := by decide +kernel
theorem dX12_chain_101 : decode cX12_chain 101 = .ok (.invokevirtual 163, 3) := by decide +kernel
theorem dX12_chain_104 : decode cX12_chain 104 = .ok (.aload_n 0, 1) := by decide +kernel
theorem dX12_chain_105 : decode cX12_chain 105 = .ok (.getfield 110, 3) := by decide +kernel
theorem dX12_chain_108 : decode cX12_chain 108 = .ok (.ifCond .ne 14, 3) := by decide +kernel
theorem dX12_chain_111 : decode cX12_chain 111 = .ok (.aload_n 0, 1) := by decide +kernel
theorem dX12_chain_112 : decode cX12_chain 112 = .ok (.getfield 61, 3) := by decide +kernel
theorem dX12_chain_115 : decode cX12_chain 115 = .ok (.iload_n 2, 1) := by decide +kernel
theorem dX12_chain_116 : decode cX12_chain 116 = .ok (.iload 4, 2) := by decide +kernel
theorem dX12_chain_118 : decode cX12_chain 118 = .ok (.iastore, 1) := by decide +kernel
theorem dX12_chain_119 : decode cX12_chain 119 = .ok (.iinc 2 1, 3) := by decide +kernel
theorem dX12_chain_122 : decode cX12_chain 122 = .ok (.aload_n 0, 1) := by decide +kernel
theorem dX12_chain_123 : decode cX12_chain 123 = .ok (.invokevirtual 116, 3) := by decide +kernel
theorem dX12_chain_126 : decode cX12_chain 126 = .ok (.goto (-80), 3) := by decide +kernel
theorem dX12_chain_129 : decode cX12_chain 129 = .ok (.aload_n 0, 1) := by decide +kernel
theorem dX12_chain_130 : decode cX12_chain 130 = .ok (.getfield 110, 3) := by decide +kernel
theorem dX12_chain_133 : decode cX12_chain 133 = .ok (.ifCond .eq 8, 3) := by decide +kernel
theorem dX12_chain_136 : decode cX12_chain 136 = .ok (.aload_n 0, 1) := by decide +kernel
theorem dX12_chain_137 : decode cX12_chain 137 = .ok (.invokevirtual 177, 3) := by decide +kernel
theorem dX12_chain_140 : decode cX12_chain 140 = .ok (.ireturn, 1) := by decide +kernel
theorem dX12_chain_141 : decode cX12_chain 141 = .ok (.aload_n 0, 1) := by decide +kernel
theorem dX12_chain_142 : decode cX12_chain 142 = .ok (.iconst (-1), 1) := by decide +kernel
theorem dX12_chain_143 : decode cX12_chain 143 = .ok (.putfield 9, 3) := by decide +kernel
theorem dX12_chain_146 : decode cX12_chain 146 = .ok (.aload_n 0, 1) := by decide +kernel
theorem dX12_chain_147 : decode cX12_chain 147 = .ok (.iload_n 2, 1) := by decide +kernel
theorem dX12_chain_148 : decode cX12_chain 148 = .ok (.putfield 190, 3) := by decide +kernel
theorem dX12_chain_151 : decode cX12_chain 151 = .ok (.iconst 0, 1) := by decide +kernel
theorem dX12_chain_152 : decode cX12_chain 152 = .ok (.istore_n 3, 1) := by decide +kernel
theorem dX12_chain_153 : decode cX12_chain 153 = .ok (.iload_n 3, 1) := by decide +kernel
theorem dX12_chain_154 : decode cX12_chain 154 = .ok (.iload_n 2, 1) := by decide +kernel
theorem dX12_chain_155 : decode cX12_chain 155 = .ok (.if_icmp .ge 21, 3) := by decide +kernel
theorem dX12_chain_158 : decode cX12_chain 158 = .ok (.aload_n 0, 1) := by decide +kernel
theorem dX12_chain_159 : decode cX12_chain 159 = .ok (.getfield 58, 3) := by decide +kernel
theorem dX12_chain_162 : decode cX12_chain 162 = .ok (.iload_n 3, 1) := by decide +kernel
theorem dX12_chain_163 : decode cX12_chain 163 = .ok (.aload_n 0, 1) := by decide +kernel
theorem dX12_chain_164 : decode cX12_chain 164 = .ok (.getfield 61, 3) := by decide +kernel
theorem dX12_chain_167 : decode cX12_chain 167 = .ok (.iload_n 3, 1) := by decide +kernel
theorem dX12_chain_168 : decode cX12_chain 168 = .ok (.iaload, 1) := by decide +kernel
theorem dX12_chain_169 : decode cX12_chain 169 = .ok (.iastore, 1) := by decide +kernel
theorem dX12_chain_170 : decode cX12_chain 170 = .ok (.iinc 3 1, 3) := by decide +kernel
theorem dX12_chain_173 : decode cX12_chain 173 = .ok (.goto (-20), 3) := by decide +kernel
theorem dX12_chain_176 : decode cX12_chain 176 = .ok (.iload_n 2, 1) := by decide +kernel
theorem dX12_chain_177 : decode cX12_chain 177 = .ok (.ireturn, 1) := by decide +kernel
theorem dX12_book_0 : decode cX12_book 0 = .ok (.aload_n 0, 1) := by decide +kernel
theorem dX12_book_1 : decode cX12_book 1 = .ok (.iconst 0, 1) := by decide +kernel
theorem dX12_book_2 : decode cX12_book 2 = .ok (.putfield 94, 3) := by decide +kernel
theorem dX12_book_5 : decode cX12_book 5 = .ok (.aload_n 0, 1) := by decide +kernel
theorem dX12_book_6 : decode cX12_book 6 = .ok (.iload_n 1, 1) := by decide +kernel
theorem dX12_book_7 : decode cX12_book 7 = .ok (.iconst 0, 1) := by decide +kernel
theorem dX12_book_8 : decode cX12_book 8 = .ok (.aload_n 0, 1) := by decide +kernel
theorem dX12_book_9 : decode cX12_book 9 = .ok (.getfield 97, 3) := by decide +kernel
theorem dX12_book_12 : decode cX12_book 12 = .ok (.invokestatic 128, 3) := by decide +kernel
theorem dX12_book_15 : decode cX12_book 15 = .ok (.ifCond .eq 9, 3) := by decide +kernel
theorem dX12_book_18 : decode cX12_book 18 = .ok (.iload_n 1, 1) := by decide +kernel
theorem dX12_book_19 : decode cX12_book 19 = .ok (.bipush 60, 2) := by decide +kernel
theorem dX12_book_21 : decode cX12_book 21 = .ok (.if_icmp .le 7, 3) := by decide +kernel
theorem dX12_book_24 : decode cX12_book 24 = .ok (.iconst 1, 1) := by decide +kernel
theorem dX12_book_25 : decode cX12_book 25 = .ok (.goto 4, 3) := by decide +kernel
theorem dX12_book_28 : decode cX12_book 28 = .ok (.iconst 0, 1) := by decide +kernel
theorem dX12_book_29 : decode cX12_book 29 = .ok (.iconst 1, 1) := by decide +kernel
theorem dX12_book_30 : decode cX12_book 30 = .ok (.iconst 1, 1) := by decide +kernel
theorem dX12_book_31 : decode cX12_book 31 = .ok (.invokevirtual 167, 3) := by decide +kernel
theorem dX12_book_34 : decode cX12_book 34 = .ok (.ifCond .eq 5, 3) := by decide +kernel
theorem dX12_book_37 : decode cX12_book 37 = .ok (.iconst 0, 1) := by decide +kernel
theorem dX12_book_38 : decode cX12_book 38 = .ok (.ireturn, 1) := by decide +kernel
theorem dX12_book_39 : decode cX12_book 39 = .ok (.aload_n 0, 1) := by decide +kernel
theorem dX12_book_40 : decode cX12_book 40 = .ok (.iload_n 1, 1) := by decide +kernel
theorem dX12_book_41 : decode cX12_book 41 = .ok (.invokevirtual 171, 3) := by decide +kernel
theorem dX12_book_44 : decode cX12_book 44 = .ok (.iconst 0, 1) := by decide +kernel
theorem dX12_book_45 : decode cX12_book 45 = .ok (.istore_n 2, 1) := by decide +kernel
theorem dX12_book_46 : decode cX12_book 46 = .ok (.aload_n 0, 1) := by decide +kernel
theorem dX12_book_47 : decode cX12_book 47 = .ok (.getfield 110, 3) := by decide +kernel
theorem dX12_book_50 : decode cX12_book 50 = .ok (.ifCond .ne 105, 3) := by decide +kernel
theorem dX12_book_53 : decode cX12_book 53 = .ok (.aload_n 0, 1) := by decide +kernel
theorem dX12_book_54 : decode cX12_book 54 = .ok (.getfield 103, 3) := by decide +kernel
theorem dX12_book_57 : decode cX12_book 57 = .ok (.aload_n 0, 1) := by decide +kernel
theorem dX12_book_58 : decode cX12_book 58 = .ok (.getfield 100, 3) := by decide +kernel
theorem dX12_book_61 : decode cX12_book 61 = .ok (.if_icmp .ge 94, 3) := by decide +kernel
theorem dX12_book_64 : decode cX12_book 64 = .ok (.aload_n 0, 1) := by decide +kernel
theorem dX12_book_65 : decode cX12_book 65 = .ok (.invokevirtual 116, 3) := by decide +kernel
theorem dX12_book_68 : decode cX12_book 68 = .ok (.aload_n 0, 1) := by decide +kernel
theorem dX12_book_69 : decode cX12_book 69 = .ok (.getfield 103, 3) := by decide +kernel
theorem dX12_book_72 : decode cX12_book 72 = .ok (.istore_n 3, 1) := by decide +kernel
theorem dX12_book_73 : decode cX12_book 73 = .ok (.aload_n 0, 1) := by decide +kernel
theorem dX12_book_74 : decode cX12_book 74 = .ok (.iconst 0, 1) := by decide +kernel
theorem dX12_book_75 : decode cX12_book 75 = .ok (.sipush 9999, 3) := by decide +kernel
theorem dX12_book_78 : decode cX12_book 78 = .ok (.invokevirtual 159, 3) := by decide +kernel
theorem dX12_book_81 : decode cX12_book 81 = .ok (.istore 4, 2) := by decide +kernel
theorem dX12_book_83 : decode cX12_book 83 = .ok (.aload_n 0, 1) := by decide +kernel
theorem dX12_book_84 : decode cX12_book 84 = .ok (.getfield 110, 3) := by decide +kernel
theorem dX12_book_87 : decode cX12_book 87 = .ok (.ifCond .ne 15, 3) := by decide +kernel
theorem dX12_book_90 : decode cX12_book 90 = .ok (.iload_n 2, 1) := by decide +kernel
theorem dX12_book_91 : decode cX12_book 91 = .ok (.bipush 6, 2) := by decide +kernel
theorem dX12_book_93 : decode cX12_book 93 = .ok (.if_icmp .ne 9, 3) := by decide +kernel
theorem dX12_book_96 : decode cX12_book 96 = .ok (.aload_n 0, 1) := by decide +kernel
theorem dX12_book_97 : decode cX12_book 97 = .ok (.iconst 3, 1) := by decide +kernel
theorem dX12_book_98 : decode cX12_book 98 = .ok (.iload_n 3, 1) := by decide +kernel
theorem dX12_book_99 : decode cX12_book 99 = .ok (.invokevirtual 123, 3) := by decide +kernel
theorem dX12_book_102 : decode cX12_book 102 = .ok (.aload_n 0, 1) := by decide +kernel
theorem dX12_book_103 : decode cX12_book 103 = .ok (.iconst 0, 1) := by decide +kernel
theorem dX12_book_104 : decode cX12_book 104 = .ok (.ldc_w 261, 3) := by decide +kernel
theorem dX12_book_107 : decode cX12_book 107 = .ok (.invokevirtual 159, 3) := by decide +kernel
theorem dX12_book_110 : decode cX12_book 110 = .ok (.istore 5, 2) := by decide +kernel
theorem dX12_book_112 : decode cX12_book 112 = .ok (.aload_n 0, 1) := by decide +kernel
theorem dX12_book_113 : decode cX12_book 113 = .ok (.bipush 59, 2) := by decide +kernel
theorem dX12_book_115 : decode cX12_book 115 = .ok (.invokevirtual 163, 3) := by decide +kernel
theorem dX12_book_118 : decode cX12_book 118 = .ok (.aload_n 0, 1) := by decide +kernel
theorem dX12_book_119 : decode cX12_book 119 = .ok (.getfield 110, 3) := by decide +kernel
theorem dX12_book_122 : decode cX12_book 122 = .ok (.ifCond .ne 26, 3) := by decide +kernel
theorem dX12_book_125 : decode cX12_book 125 = .ok (.aload_n 0, 1) := by decide +kernel
theorem dX12_book_126 : decode cX12_book 126 = .ok (.getfield 49, 3) := by decide +kernel
theorem dX12_book_129 : decode cX12_book 129 = .ok (.iload_n 2, 1) := by decide +kernel
theorem dX12_book_130 : decode cX12_book 130 = .ok (.aaload, 1) := by decide +kernel
theorem dX12_book_131 : decode cX12_book 131 = .ok (.iconst 0, 1) := by decide +kernel
theorem dX12_book_132 : decode cX12_book 132 = .ok (.iload 4, 2) := by decide +kernel
theorem dX12_book_134 : decode cX12_book 134 = .ok (.iastore, 1) := by decide +kernel
theorem dX12_book_135 : decode cX12_book 135 = .ok (.aload_n 0, 1) := by decide +kernel
theorem dX12_book_136 : decode cX12_book 136 = .ok (.getfield 49, 3) := by decide +kernel
theorem dX12_book_139 : decode cX12_book 139 = .ok (.iload_n 2, 1) := by decide +kernel
theorem dX12_book_140 : decode cX12_book 140 = .ok (.aaload, 1) := by decide +kernel
theorem dX12_book_141 : decode cX12_book 141 = .ok (.iconst 1, 1) := by decide +kernel
theorem dX12_book_142 : decode cX12_book 142 = .ok (.iload 5, 2) := by decide +kernel
theorem dX12_book_144 : decode cX12_book 144 = .ok (.iastore, 1) := by decide +kernel
theorem dX12_book_145 : decode cX12_book 145 = .ok (.iinc 2 1, 3) := by decide +kernel
theorem dX12_book_148 : decode cX12_book 148 = .ok (.aload_n 0, 1) := by decide +kernel
theorem dX12_book_149 : decode cX12_book 149 = .ok (.invokevirtual 116, 3) := by decide +kernel
theorem dX12_book_152 : decode cX12_book 152 = .ok (.goto (-106), 3) := by decide +kernel
theorem dX12_book_155 : decode cX12_book 155 = .ok (.aload_n 0, 1) := by decide +kernel
theorem dX12_book_156 : decode cX12_book 156 = .ok (.getfield 110, 3) := by decide +kernel
theorem dX12_book_159 : decode cX12_book 159 = .ok (.ifCond .eq 8, 3) := by decide +kernel
theorem dX12_book_162 : decode cX12_book 162 = .ok (.aload_n 0, 1) := by decide +kernel
theorem dX12_book_163 : decode cX12_book 163 = .ok (.invokevirtual 177, 3) := by decide +kernel
theorem dX12_book_166 : decode cX12_book 166 = .ok (.ireturn, 1) := by decide +kernel
theorem dX12_book_167 : decode cX12_book 167 = .ok (.aload_n 0, 1) := by decide +kernel
theorem dX12_book_168 : decode cX12_book 168 = .ok (.iconst (-1), 1) := by decide +kernel
theorem dX12_book_169 : decode cX12_book 169 = .ok (.putfield 9, 3) := by decide +kernel
theorem dX12_book_172 : decode cX12_book 172 = .ok (.aload_n 0, 1) := by decide +kernel
theorem dX12_book_173 : decode cX12_book 173 = .ok (.iload_n 2, 1) := by decide +kernel
theorem dX12_book_174 : decode cX12_book 174 = .ok (.putfield 187, 3) := by decide +kernel
theorem dX12_book_177 : decode cX12_book 177 = .ok (.aload_n 0, 1) := by decide +kernel
theorem dX12_book_178 : decode cX12_book 178 = .ok (.getfield 49, 3) := by decide +kernel
theorem dX12_book_181 : decode cX12_book 181 = .ok (.aload_n 0, 1) := by decide +kernel
theorem dX12_book_182 : decode cX12_book 182 = .ok (.getfield 46, 3) := by decide +kernel
theorem dX12_book_185 : decode cX12_book 185 = .ok (.iload_n 2, 1) := by decide +kernel
theorem dX12_book_186 : decode cX12_book 186 = .ok (.invokestatic 180, 3) := by decide +kernel
theorem dX12_book_189 : decode cX12_book 189 = .ok (.iload_n 2, 1) := by decide +kernel
theorem dX12_book_190 : decode cX12_book 190 = .ok (.ireturn, 1) := by decide +kernel
theorem dX12_fault_0 : decode cX12_fault 0 = .ok (.aload_n 0, 1) := by decide +kernel
theorem dX12_fault_1 : decode cX12_fault 1 = .ok (.iconst 0, 1) := by decide +kernel
theorem dX12_fault_2 : decode cX12_fault 2 = .ok (.putfield 94, 3) := by decide +kernel
theorem dX12_fault_5 : decode cX12_fault 5 = .ok (.aload_n 0, 1) := by decide +kernel
theorem dX12_fault_6 : decode cX12_fault 6 = .ok (.getfield 9, 3) := by decide +kernel
theorem dX12_fault_9 : decode cX12_fault 9 = .ok (.ireturn, 1) := by decide +kernel
theorem dX12_jamsBy_0 : decode cX12_jamsBy 0 = .ok (.iload_n 0, 1) := by decide +kernel
theorem dX12_jamsBy_1 : decode cX12_jamsBy 1 = .ok (.iconst 5, 1) := by decide +kernel
theorem dX12_jamsBy_2 : decode cX12_jamsBy 2 = .ok (.if_icmp .ge 11, 3) := by decide +kernel
theorem dX12_jamsBy_5 : decode cX12_jamsBy 5 = .ok (.iload_n 1, 1) := by decide +kernel
theorem dX12_jamsBy_6 : decode cX12_jamsBy 6 = .ok (.ifCond .ne 7, 3) := by decide +kernel
theorem dX12_jamsBy_9 : decode cX12_jamsBy 9 = .ok (.iconst 1, 1) := by decide +kernel
theorem dX12_jamsBy_10 : decode cX12_jamsBy 10 = .ok (.goto 4, 3) := by decide +kernel
theorem dX12_jamsBy_13 : decode cX12_jamsBy 13 = .ok (.iconst 0, 1) := by decide +kernel
theorem dX12_jamsBy_14 : decode cX12_jamsBy 14 = .ok (.ireturn, 1) := by decide +kernel
theorem dX12_whole_0 : decode cX12_whole 0 = .ok (.iload_n 0, 1) := by decide +kernel
theorem dX12_whole_1 : decode cX12_whole 1 = .ok (.tableswitch 75 0 4 #[35, 43, 51, 59, 66], 35) := by decide +kernel
theorem dX12_whole_36 : decode cX12_whole 36 = .ok (.iload_n 1, 1) := by decide +kernel
theorem dX12_whole_37 : decode cX12_whole 37 = .ok (.iload_n 2, 1) := by decide +kernel
theorem dX12_whole_38 : decode cX12_whole 38 = .ok (.imul, 1) := by decide +kernel
theorem dX12_whole_39 : decode cX12_whole 39 = .ok (.iload_n 3, 1) := by decide +kernel
theorem dX12_whole_40 : decode cX12_whole 40 = .ok (.idiv, 1) := by decide +kernel
theorem dX12_whole_41 : decode cX12_whole 41 = .ok (.i2b, 1) := by decide +kernel
theorem dX12_whole_42 : decode cX12_whole 42 = .ok (.i2l, 1) := by decide +kernel
theorem dX12_whole_43 : decode cX12_whole 43 = .ok (.lreturn, 1) := by decide +kernel
theorem dX12_whole_44 : decode cX12_whole 44 = .ok (.iload_n 1, 1) := by decide +kernel
theorem dX12_whole_45 : decode cX12_whole 45 = .ok (.iload_n 2, 1) := by decide +kernel
theorem dX12_whole_46 : decode cX12_whole 46 = .ok (.imul, 1) := by decide +kernel
theorem dX12_whole_47 : decode cX12_whole 47 = .ok (.iload_n 3, 1) := by decide +kernel
theorem dX12_whole_48 : decode cX12_whole 48 = .ok (.idiv, 1) := by decide +kernel
theorem dX12_whole_49 : decode cX12_whole 49 = .ok (.i2s, 1) := by decide +kernel
theorem dX12_whole_50 : decode cX12_whole 50 = .ok (.i2l, 1) := by decide +kernel
theorem dX12_whole_51 : decode cX12_whole 51 = .ok (.lreturn, 1) := by decide +kernel
theorem dX12_whole_52 : decode cX12_whole 52 = .ok (.iload_n 1, 1) := by decide +kernel
theorem dX12_whole_53 : decode cX12_whole 53 = .ok (.iload_n 2, 1) := by decide +kernel
theorem dX12_whole_54 : decode cX12_whole 54 = .ok (.imul, 1) := by decide +kernel
theorem dX12_whole_55 : decode cX12_whole 55 = .ok (.iload_n 3, 1) := by decide +kernel
theorem dX12_whole_56 : decode cX12_whole 56 = .ok (.idiv, 1) := by decide +kernel
theorem dX12_whole_57 : decode cX12_whole 57 = .ok (.i2c, 1) := by decide +kernel
theorem dX12_whole_58 : decode cX12_whole 58 = .ok (.i2l, 1) := by decide +kernel
theorem dX12_whole_59 : decode cX12_whole 59 = .ok (.lreturn, 1) := by decide +kernel
theorem dX12_whole_60 : decode cX12_whole 60 = .ok (.iload_n 1, 1) := by decide +kernel
theorem dX12_whole_61 : decode cX12_whole 61 = .ok (.iload_n 2, 1) := by decide +kernel
theorem dX12_whole_62 : decode cX12_whole 62 = .ok (.imul, 1) := by decide +kernel
theorem dX12_whole_63 : decode cX12_whole 63 = .ok (.iload_n 3, 1) := by decide +kernel
theorem dX12_whole_64 : decode cX12_whole 64 = .ok (.idiv, 1) := by decide +kernel
theorem dX12_whole_65 : decode cX12_whole 65 = .ok (.i2l, 1) := by decide +kernel
theorem dX12_whole_66 : decode cX12_whole 66 = .ok (.lreturn, 1) := by decide +kernel
theorem dX12_whole_67 : decode cX12_whole 67 = .ok (.iload_n 1, 1) := by decide +kernel
theorem dX12_whole_68 : decode cX12_whole 68 = .ok (.i2l, 1) := by decide +kernel
theorem dX12_whole_69 : decode cX12_whole 69 = .ok (.iload_n 2, 1) := by decide +kernel
theorem dX12_whole_70 : decode cX12_whole 70 = .ok (.i2l, 1) := by decide +kernel
theorem dX12_whole_71 : decode cX12_whole 71 = .ok (.lmul, 1) := by decide +kernel
theorem dX12_whole_72 : decode cX12_whole 72 = .ok (.iload_n 3, 1) := by decide +kernel
theorem dX12_whole_73 : decode cX12_whole 73 = .ok (.i2l, 1) := by decide +kernel
theorem dX12_whole_74 : decode cX12_whole 74 = .ok (.ldiv, 1) := by decide +kernel
theorem dX12_whole_75 : decode cX12_whole 75 = .ok (.lreturn, 1) := by decide +kernel
theorem dX12_whole_76 : decode cX12_whole 76 = .ok (.iload_n 1, 1) := by decide +kernel
theorem dX12_whole_77 : decode cX12_whole 77 = .ok (.iload_n 2, 1) := by decide +kernel
theorem dX12_whole_78 : decode cX12_whole 78 = .ok (.imul, 1) := by decide +kernel
theorem dX12_whole_79 : decode cX12_whole 79 = .ok (.iload_n 3, 1) := by decide +kernel
theorem dX12_whole_80 : decode cX12_whole 80 = .ok (.iadd, 1) := by decide +kernel
theorem dX12_whole_81 : decode cX12_whole 81 = .ok (.iconst 1, 1) := by decide +kernel
theorem dX12_whole_82 : decode cX12_whole 82 = .ok (.iand, 1) := by decide +kernel
theorem dX12_whole_83 : decode cX12_whole 83 = .ok (.i2l, 1) := by decide +kernel
theorem dX12_whole_84 : decode cX12_whole 84 = .ok (.lreturn, 1) := by decide +kernel
theorem dX12_real_0 : decode cX12_real 0 = .ok (.iload_n 0, 1) := by decide +kernel
theorem dX12_real_1 : decode cX12_real 1 = .ok (.bipush 6, 2) := by decide +kernel
theorem dX12_real_3 : decode cX12_real 3 = .ok (.if_icmp .ne 12, 3) := by decide +kernel
theorem dX12_real_6 : decode cX12_real 6 = .ok (.iload_n 1, 1) := by decide +kernel
theorem dX12_real_7 : decode cX12_real 7 = .ok (.i2d, 1) := by decide +kernel
theorem dX12_real_8 : decode cX12_real 8 = .ok (.iload_n 2, 1) := by decide +kernel
theorem dX12_real_9 : decode cX12_real 9 = .ok (.i2d, 1) := by decide +kernel
theorem dX12_real_10 : decode cX12_real 10 = .ok (.dmul, 1) := by decide +kernel
theorem dX12_real_11 : decode cX12_real 11 = .ok (.iload_n 3, 1) := by decide +kernel
theorem dX12_real_12 : decode cX12_real 12 = .ok (.i2d, 1) := by decide +kernel
theorem dX12_real_13 : decode cX12_real 13 = .ok (.ddiv, 1) := by decide +kernel
theorem dX12_real_14 : decode cX12_real 14 = .ok (.dreturn, 1) := by decide +kernel
theorem dX12_real_15 : decode cX12_real 15 = .ok (.iload_n 1, 1) := by decide +kernel
theorem dX12_real_16 : decode cX12_real 16 = .ok (.i2f, 1) := by decide +kernel
theorem dX12_real_17 : decode cX12_real 17 = .ok (.fstore 4, 2) := by decide +kernel
theorem dX12_real_19 : decode cX12_real 19 = .ok (.fload 4, 2) := by decide +kernel
theorem dX12_real_21 : decode cX12_real 21 = .ok (.iload_n 2, 1) := by decide +kernel
theorem dX12_real_22 : decode cX12_real 22 = .ok (.i2f, 1) := by decide +kernel
theorem dX12_real_23 : decode cX12_real 23 = .ok (.fmul, 1) := by decide +kernel
theorem dX12_real_24 : decode cX12_real 24 = .ok (.fstore 4, 2) := by decide +kernel
theorem dX12_real_26 : decode cX12_real 26 = .ok (.fload 4, 2) := by decide +kernel
theorem dX12_real_28 : decode cX12_real 28 = .ok (.iload_n 3, 1) := by decide +kernel
theorem dX12_real_29 : decode cX12_real 29 = .ok (.i2f, 1) := by decide +kernel
theorem dX12_real_30 : decode cX12_real 30 = .ok (.fdiv, 1) := by decide +kernel
theorem dX12_real_31 : decode cX12_real 31 = .ok (.f2d, 1) := by decide +kernel
theorem dX12_real_32 : decode cX12_real 32 = .ok (.dreturn, 1) := by decide +kernel
theorem dX12_isReal_0 : decode cX12_isReal 0 = .ok (.iload_n 0, 1) := by decide +kernel
theorem dX12_isReal_1 : decode cX12_isReal 1 = .ok (.iconst 5, 1) := by decide +kernel
theorem dX12_isReal_2 : decode cX12_isReal 2 = .ok (.if_icmp .eq 9, 3) := by decide +kernel
theorem dX12_isReal_5 : decode cX12_isReal 5 = .ok (.iload_n 0, 1) := by decide +kernel
theorem dX12_isReal_6 : decode cX12_isReal 6 = .ok (.bipush 6, 2) := by decide +kernel
theorem dX12_isReal_8 : decode cX12_isReal 8 = .ok (.if_icmp .ne 7, 3) := by decide +kernel
theorem dX12_isReal_11 : decode cX12_isReal 11 = .ok (.iconst 1, 1) := by decide +kernel
theorem dX12_isReal_12 : decode cX12_isReal 12 = .ok (.goto 4, 3) := by decide +kernel
theorem dX12_isReal_15 : decode cX12_isReal 15 = .ok (.iconst 0, 1) := by decide +kernel
theorem dX12_isReal_16 : decode cX12_isReal 16 = .ok (.ireturn, 1) := by decide +kernel
theorem dX12_outBy_0 : decode cX12_outBy 0 = .ok (.iload_n 0, 1) := by decide +kernel
theorem dX12_outBy_1 : decode cX12_outBy 1 = .ok (.invokestatic 262, 3) := by decide +kernel
theorem dX12_outBy_4 : decode cX12_outBy 4 = .ok (.ifCond .eq 14, 3) := by decide +kernel
theorem dX12_outBy_7 : decode cX12_outBy 7 = .ok (.iload_n 0, 1) := by decide +kernel
theorem dX12_outBy_8 : decode cX12_outBy 8 = .ok (.iload_n 1, 1) := by decide +kernel
theorem dX12_outBy_9 : decode cX12_outBy 9 = .ok (.iload_n 2, 1) := by decide +kernel
theorem dX12_outBy_10 : decode cX12_outBy 10 = .ok (.iload_n 3, 1) := by decide +kernel
theorem dX12_outBy_11 : decode cX12_outBy 11 = .ok (.invokestatic 265, 3) := by decide +kernel
theorem dX12_outBy_14 : decode cX12_outBy 14 = .ok (.d2i, 1) := by decide +kernel
theorem dX12_outBy_15 : decode cX12_outBy 15 = .ok (.goto 11, 3) := by decide +kernel
theorem dX12_outBy_18 : decode cX12_outBy 18 = .ok (.iload_n 0, 1) := by decide +kernel
theorem dX12_outBy_19 : decode cX12_outBy 19 = .ok (.iload_n 1, 1) := by decide +kernel
theorem dX12_outBy_20 : decode cX12_outBy 20 = .ok (.iload_n 2, 1) := by decide +kernel
theorem dX12_outBy_21 : decode cX12_outBy 21 = .ok (.iload_n 3, 1) := by decide +kernel
theorem dX12_outBy_22 : decode cX12_outBy 22 = .ok (.invokestatic 269, 3) := by decide +kernel
theorem dX12_outBy_25 : decode cX12_outBy 25 = .ok (.l2i, 1) := by decide +kernel
theorem dX12_outBy_26 : decode cX12_outBy 26 = .ok (.ireturn, 1) := by decide +kernel
theorem dX12_jams_0 : decode cX12_jams 0 = .ok (.aload_n 0, 1) := by decide +kernel
theorem dX12_jams_1 : decode cX12_jams 1 = .ok (.getfield 31, 3) := by decide +kernel
theorem dX12_jams_4 : decode cX12_jams 4 = .ok (.iload_n 2, 1) := by decide +kernel
theorem dX12_jams_5 : decode cX12_jams 5 = .ok (.aaload, 1) := by decide +kernel
theorem dX12_jams_6 : decode cX12_jams 6 = .ok (.iconst 0, 1) := by decide +kernel
theorem dX12_jams_7 : decode cX12_jams 7 = .ok (.iaload, 1) := by decide +kernel
theorem dX12_jams_8 : decode cX12_jams 8 = .ok (.aload_n 1, 1) := by decide +kernel
theorem dX12_jams_9 : decode cX12_jams 9 = .ok (.bipush 8, 2) := by decide +kernel
theorem dX12_jams_11 : decode cX12_jams 11 = .ok (.iload_n 2, 1) := by decide +kernel
theorem dX12_jams_12 : decode cX12_jams 12 = .ok (.iadd, 1) := by decide +kernel
theorem dX12_jams_13 : decode cX12_jams 13 = .ok (.iaload, 1) := by decide +kernel
theorem dX12_jams_14 : decode cX12_jams 14 = .ok (.invokestatic 273, 3) := by decide +kernel
theorem dX12_jams_17 : decode cX12_jams 17 = .ok (.ireturn, 1) := by decide +kernel
theorem dX12_outOf_0 : decode cX12_outOf 0 = .ok (.aload_n 0, 1) := by decide +kernel
theorem dX12_outOf_1 : decode cX12_outOf 1 = .ok (.getfield 31, 3) := by decide +kernel
theorem dX12_outOf_4 : decode cX12_outOf 4 = .ok (.iload_n 2, 1) := by decide +kernel
theorem dX12_outOf_5 : decode cX12_outOf 5 = .ok (.aaload, 1) := by decide +kernel
theorem dX12_outOf_6 : decode cX12_outOf 6 = .ok (.iconst 0, 1) := by decide +kernel
theorem dX12_outOf_7 : decode cX12_outOf 7 = .ok (.iaload, 1) := by decide +kernel
theorem dX12_outOf_8 : decode cX12_outOf 8 = .ok (.iload_n 3, 1) := by decide +kernel
theorem dX12_outOf_9 : decode cX12_outOf 9 = .ok (.aload_n 1, 1) := by decide +kernel
theorem dX12_outOf_10 : decode cX12_outOf 10 = .ok (.iconst 0, 1) := by decide +kernel
theorem dX12_outOf_11 : decode cX12_outOf 11 = .ok (.iload_n 2, 1) := by decide +kernel
theorem dX12_outOf_12 : decode cX12_outOf 12 = .ok (.iadd, 1) := by decide +kernel
theorem dX12_outOf_13 : decode cX12_outOf 13 = .ok (.iaload, 1) := by decide +kernel
theorem dX12_outOf_14 : decode cX12_outOf 14 = .ok (.aload_n 1, 1) := by decide +kernel
theorem dX12_outOf_15 : decode cX12_outOf 15 = .ok (.bipush 8, 2) := by decide +kernel
theorem dX12_outOf_17 : decode cX12_outOf 17 = .ok (.iload_n 2, 1) := by decide +kernel
theorem dX12_outOf_18 : decode cX12_outOf 18 = .ok (.iadd, 1) := by decide +kernel
theorem dX12_outOf_19 : decode cX12_outOf 19 = .ok (.iaload, 1) := by decide +kernel
theorem dX12_outOf_20 : decode cX12_outOf 20 = .ok (.invokestatic 276, 3) := by decide +kernel
theorem dX12_outOf_23 : decode cX12_outOf 23 = .ok (.ireturn, 1) := by decide +kernel
theorem dX12_off_0 : decode cX12_off 0 = .ok (.iload_n 0, 1) := by decide +kernel
theorem dX12_off_1 : decode cX12_off 1 = .ok (.i2l, 1) := by decide +kernel
theorem dX12_off_2 : decode cX12_off 2 = .ok (.iload_n 1, 1) := by decide +kernel
theorem dX12_off_3 : decode cX12_off 3 = .ok (.i2l, 1) := by decide +kernel
theorem dX12_off_4 : decode cX12_off 4 = .ok (.lsub, 1) := by decide +kernel
theorem dX12_off_5 : decode cX12_off 5 = .ok (.lstore_n 2, 1) := by decide +kernel
theorem dX12_off_6 : decode cX12_off 6 = .ok (.lload_n 2, 1) := by decide +kernel
theorem dX12_off_7 : decode cX12_off 7 = .ok (.lconst 0, 1) := by decide +kernel
theorem dX12_off_8 : decode cX12_off 8 = .ok (.lcmp, 1) := by decide +kernel
theorem dX12_off_9 : decode cX12_off 9 = .ok (.ifCond .ge 8, 3) := by decide +kernel
theorem dX12_off_12 : decode cX12_off 12 = .ok (.lload_n 2, 1) := by decide +kernel
theorem dX12_off_13 : decode cX12_off 13 = .ok (.lneg, 1) := by decide +kernel
theorem dX12_off_14 : decode cX12_off 14 = .ok (.goto 4, 3) := by decide +kernel
theorem dX12_off_17 : decode cX12_off 17 = .ok (.lload_n 2, 1) := by decide +kernel
theorem dX12_off_18 : decode cX12_off 18 = .ok (.lstore_n 2, 1) := by decide +kernel
theorem dX12_off_19 : decode cX12_off 19 = .ok (.lload_n 2, 1) := by decide +kernel
theorem dX12_off_20 : decode cX12_off 20 = .ok (.ldc2_w 280, 3) := by decide +kernel
theorem dX12_off_23 : decode cX12_off 23 = .ok (.lcmp, 1) := by decide +kernel
theorem dX12_off_24 : decode cX12_off 24 = .ok (.ifCond .le 9, 3) := by decide +kernel
theorem dX12_off_27 : decode cX12_off 27 = .ok (.ldc_w 282, 3) := by decide +kernel
theorem dX12_off_30 : decode cX12_off 30 = .ok (.goto 5, 3) := by decide +kernel
theorem dX12_off_33 : decode cX12_off 33 = .ok (.lload_n 2, 1) := by decide +kernel
theorem dX12_off_34 : decode cX12_off 34 = .ok (.l2i, 1) := by decide +kernel
theorem dX12_off_35 : decode cX12_off 35 = .ok (.ireturn, 1) := by decide +kernel
theorem dX12_levelBy_0 : decode cX12_levelBy 0 = .ok (.aload_n 0, 1) := by decide +kernel
theorem dX12_levelBy_1 : decode cX12_levelBy 1 = .ok (.getfield 55, 3) := by decide +kernel
theorem dX12_levelBy_4 : decode cX12_levelBy 4 = .ok (.iconst 0, 1) := by decide +kernel
theorem dX12_levelBy_5 : decode cX12_levelBy 5 = .ok (.iload_n 1, 1) := by decide +kernel
theorem dX12_levelBy_6 : decode cX12_levelBy 6 = .ok (.iastore, 1) := by decide +kernel
theorem dX12_levelBy_7 : decode cX12_levelBy 7 = .ok (.aload_n 0, 1) := by decide +kernel
theorem dX12_levelBy_8 : decode cX12_levelBy 8 = .ok (.getfield 55, 3) := by decide +kernel
theorem dX12_levelBy_11 : decode cX12_levelBy 11 = .ok (.iconst 1, 1) := by decide +kernel
theorem dX12_levelBy_12 : decode cX12_levelBy 12 = .ok (.iload_n 2, 1) := by decide +kernel
theorem dX12_levelBy_13 : decode cX12_levelBy 13 = .ok (.iastore, 1) := by decide +kernel
theorem dX12_levelBy_14 : decode cX12_levelBy 14 = .ok (.aload_n 0, 1) := by decide +kernel
theorem dX12_levelBy_15 : decode cX12_levelBy 15 = .ok (.getfield 55, 3) := by decide +kernel
theorem dX12_levelBy_18 : decode cX12_levelBy 18 = .ok (.iconst 2, 1) := by decide +kernel
theorem dX12_levelBy_19 : decode cX12_levelBy 19 = .ok (.iload_n 3, 1) := by decide +kernel
theorem dX12_levelBy_20 : decode cX12_levelBy 20 = .ok (.iastore, 1) := by decide +kernel
theorem dX12_levelBy_21 : decode cX12_levelBy 21 = .ok (.aload_n 0, 1) := by decide +kernel
theorem dX12_levelBy_22 : decode cX12_levelBy 22 = .ok (.getfield 55, 3) := by decide +kernel
theorem dX12_levelBy_25 : decode cX12_levelBy 25 = .ok (.iconst 3, 1) := by decide +kernel
theorem dX12_levelBy_26 : decode cX12_levelBy 26 = .ok (.iload 4, 2) := by decide +kernel
theorem dX12_levelBy_28 : decode cX12_levelBy 28 = .ok (.iastore, 1) := by decide +kernel
theorem dX12_levelBy_29 : decode cX12_levelBy 29 = .ok (.aload_n 0, 1) := by decide +kernel
theorem dX12_levelBy_30 : decode cX12_levelBy 30 = .ok (.getfield 55, 3) := by decide +kernel
theorem dX12_levelBy_33 : decode cX12_levelBy 33 = .ok (.iconst 4, 1) := by decide +kernel
theorem dX12_levelBy_34 : decode cX12_levelBy 34 = .ok (.iload 5, 2) := by decide +kernel
theorem dX12_levelBy_36 : decode cX12_levelBy 36 = .ok (.iastore, 1) := by decide +kernel
theorem dX12_levelBy_37 : decode cX12_levelBy 37 = .ok (.aload_n 0, 1) := by decide +kernel
theorem dX12_levelBy_38 : decode cX12_levelBy 38 = .ok (.getfield 55, 3) := by decide +kernel
theorem dX12_levelBy_41 : decode cX12_levelBy 41 = .ok (.iconst 5, 1) := by decide +kernel
theorem dX12_levelBy_42 : decode cX12_levelBy 42 = .ok (.iload 6, 2) := by decide +kernel
theorem dX12_levelBy_44 : decode cX12_levelBy 44 = .ok (.iastore, 1) := by decide +kernel
theorem dX12_levelBy_45 : decode cX12_levelBy 45 = .ok (.aload_n 0, 1) := by decide +kernel
theorem dX12_levelBy_46 : decode cX12_levelBy 46 = .ok (.getfield 55, 3) := by decide +kernel
theorem dX12_levelBy_49 : decode cX12_levelBy 49 = .ok (.bipush 6, 2) := by decide +kernel
theorem dX12_levelBy_51 : decode cX12_levelBy 51 = .ok (.iload 7, 2) := by decide +kernel
theorem dX12_levelBy_53 : decode cX12_levelBy 53 = .ok (.iastore, 1) := by decide +kernel
theorem dX12_levelBy_54 : decode cX12_levelBy 54 = .ok (.aload_n 0, 1) := by decide +kernel
theorem dX12_levelBy_55 : decode cX12_levelBy 55 = .ok (.getfield 55, 3) := by decide +kernel
theorem dX12_levelBy_58 : decode cX12_levelBy 58 = .ok (.bipush 7, 2) := by decide +kernel
theorem dX12_levelBy_60 : decode cX12_levelBy 60 = .ok (.iload 8, 2) := by decide +kernel
theorem dX12_levelBy_62 : decode cX12_levelBy 62 = .ok (.iastore, 1) := by decide +kernel
theorem dX12_levelBy_63 : decode cX12_levelBy 63 = .ok (.aload_n 0, 1) := by decide +kernel
theorem dX12_levelBy_64 : decode cX12_levelBy 64 = .ok (.invokevirtual 283, 3) := by decide +kernel
theorem dX12_levelBy_67 : decode cX12_levelBy 67 = .ok (.ireturn, 1) := by decide +kernel
theorem dX12_levelOf_0 : decode cX12_levelOf 0 = .ok (.aload_n 0, 1) := by decide +kernel
theorem dX12_levelOf_1 : decode cX12_levelOf 1 = .ok (.aload_n 1, 1) := by decide +kernel
theorem dX12_levelOf_2 : decode cX12_levelOf 2 = .ok (.iload_n 2, 1) := by decide +kernel
theorem dX12_levelOf_3 : decode cX12_levelOf 3 = .ok (.invokevirtual 286, 3) := by decide +kernel
theorem dX12_levelOf_6 : decode cX12_levelOf 6 = .ok (.ifCond .eq 7, 3) := by decide +kernel
theorem dX12_levelOf_9 : decode cX12_levelOf 9 = .ok (.iconst 0, 1) := by decide +kernel
theorem dX12_levelOf_10 : decode cX12_levelOf 10 = .ok (.goto 10, 3) := by decide +kernel
theorem dX12_levelOf_13 : decode cX12_levelOf 13 = .ok (.aload_n 0, 1) := by decide +kernel
theorem dX12_levelOf_14 : decode cX12_levelOf 14 = .ok (.aload_n 1, 1) := by decide +kernel
theorem dX12_levelOf_15 : decode cX12_levelOf 15 = .ok (.iload_n 2, 1) := by decide +kernel
theorem dX12_levelOf_16 : decode cX12_levelOf 16 = .ok (.iload_n 3, 1) := by decide +kernel
theorem dX12_levelOf_17 : decode cX12_levelOf 17 = .ok (.invokevirtual 290, 3) := by decide +kernel
theorem dX12_levelOf_20 : decode cX12_levelOf 20 = .ok (.istore 4, 2) := by decide +kernel
theorem dX12_levelOf_22 : decode cX12_levelOf 22 = .ok (.aload_n 0, 1) := by decide +kernel
theorem dX12_levelOf_23 : decode cX12_levelOf 23 = .ok (.aload_n 1, 1) := by decide +kernel
theorem dX12_levelOf_24 : decode cX12_levelOf 24 = .ok (.iload_n 2, 1) := by decide +kernel
theorem dX12_levelOf_25 : decode cX12_levelOf 25 = .ok (.invokevirtual 286, 3) := by decide +kernel
theorem dX12_levelOf_28 : decode cX12_levelOf 28 = .ok (.ifCond .eq 7, 3) := by decide +kernel
theorem dX12_levelOf_31 : decode cX12_levelOf 31 = .ok (.iconst 0, 1) := by decide +kernel
theorem dX12_levelOf_32 : decode cX12_levelOf 32 = .ok (.goto 9, 3) := by decide +kernel
theorem dX12_levelOf_35 : decode cX12_levelOf 35 = .ok (.iload_n 3, 1) := by decide +kernel
theorem dX12_levelOf_36 : decode cX12_levelOf 36 = .ok (.iload 4, 2) := by decide +kernel
theorem dX12_levelOf_38 : decode cX12_levelOf 38 = .ok (.invokestatic 294, 3) := by decide +kernel
theorem dX12_levelOf_41 : decode cX12_levelOf 41 = .ok (.istore 5, 2) := by decide +kernel
theorem dX12_levelOf_43 : decode cX12_levelOf 43 = .ok (.aload_n 0, 1) := by decide +kernel
theorem dX12_levelOf_44 : decode cX12_levelOf 44 = .ok (.iload_n 3, 1) := by decide +kernel
theorem dX12_levelOf_45 : decode cX12_levelOf 45 = .ok (.iload 4, 2) := by decide +kernel
theorem dX12_levelOf_47 : decode cX12_levelOf 47 = .ok (.iload 5, 2) := by decide +kernel
theorem dX12_levelOf_49 : decode cX12_levelOf 49 = .ok (.aload_n 1, 1) := by decide +kernel
theorem dX12_levelOf_50 : decode cX12_levelOf 50 = .ok (.bipush 24, 2) := by decide +kernel
theorem dX12_levelOf_52 : decode cX12_levelOf 52 = .ok (.iload_n 2, 1) := by decide +kernel
theorem dX12_levelOf_53 : decode cX12_levelOf 53 = .ok (.iadd, 1) := by decide +kernel
theorem dX12_levelOf_54 : decode cX12_levelOf 54 = .ok (.iaload, 1) := by decide +kernel
theorem dX12_levelOf_55 : decode cX12_levelOf 55 = .ok (.aload_n 1, 1) := by decide +kernel
theorem dX12_levelOf_56 : decode cX12_levelOf 56 = .ok (.bipush 32, 2) := by decide +kernel
theorem dX12_levelOf_58 : decode cX12_levelOf 58 = .ok (.iaload, 1) := by decide +kernel
theorem dX12_levelOf_59 : decode cX12_levelOf 59 = .ok (.iload_n 2, 1) := by decide +kernel
theorem dX12_levelOf_60 : decode cX12_levelOf 60 = .ok (.aload_n 1, 1) := by decide +kernel
theorem dX12_levelOf_61 : decode cX12_levelOf 61 = .ok (.iconst 0, 1) := by decide +kernel
theorem dX12_levelOf_62 : decode cX12_levelOf 62 = .ok (.iload_n 2, 1) := by decide +kernel
theorem dX12_levelOf_63 : decode cX12_levelOf 63 = .ok (.iadd, 1) := by decide +kernel
theorem dX12_levelOf_64 : decode cX12_levelOf 64 = .ok (.iaload, 1) := by decide +kernel
theorem dX12_levelOf_65 : decode cX12_levelOf 65 = .ok (.aload_n 1, 1) := by decide +kernel
theorem dX12_levelOf_66 : decode cX12_levelOf 66 = .ok (.bipush 8, 2) := by decide +kernel
theorem dX12_levelOf_68 : decode cX12_levelOf 68 = .ok (.iload_n 2, 1) := by decide +kernel
theorem dX12_levelOf_69 : decode cX12_levelOf 69 = .ok (.iadd, 1) := by decide +kernel
theorem dX12_levelOf_70 : decode cX12_levelOf 70 = .ok (.iaload, 1) := by decide +kernel
theorem dX12_levelOf_71 : decode cX12_levelOf 71 = .ok (.invokevirtual 297, 3) := by decide +kernel
theorem dX12_levelOf_74 : decode cX12_levelOf 74 = .ok (.ireturn, 1) := by decide +kernel
theorem dX12_placeOf_0 : decode cX12_placeOf 0 = .ok (.bipush 24, 2) := by decide +kernel
theorem dX12_placeOf_2 : decode cX12_placeOf 2 = .ok (.iload_n 0, 1) := by decide +kernel
theorem dX12_placeOf_3 : decode cX12_placeOf 3 = .ok (.imul, 1) := by decide +kernel
theorem dX12_placeOf_4 : decode cX12_placeOf 4 = .ok (.iload_n 1, 1) := by decide +kernel
theorem dX12_placeOf_5 : decode cX12_placeOf 5 = .ok (.iadd, 1) := by decide +kernel
theorem dX12_placeOf_6 : decode cX12_placeOf 6 = .ok (.ireturn, 1) := by decide +kernel
theorem dX12_readAt_0 : decode cX12_readAt 0 = .ok (.aload_n 1, 1) := by decide +kernel
theorem dX12_readAt_1 : decode cX12_readAt 1 = .ok (.sipush 227, 3) := by decide +kernel
theorem dX12_readAt_4 : decode cX12_readAt 4 = .ok (.iload_n 2, 1) := by decide +kernel
theorem dX12_readAt_5 : decode cX12_readAt 5 = .ok (.iload_n 3, 1) := by decide +kernel
theorem dX12_readAt_6 : decode cX12_readAt 6 = .ok (.invokestatic 301, 3) := by decide +kernel
theorem dX12_readAt_9 : decode cX12_readAt 9 = .ok (.iadd, 1) := by decide +kernel
theorem dX12_readAt_10 : decode cX12_readAt 10 = .ok (.iaload, 1) := by decide +kernel
theorem dX12_readAt_11 : decode cX12_readAt 11 = .ok (.istore 4, 2) := by decide +kernel
theorem dX12_readAt_13 : decode cX12_readAt 13 = .ok (.iload 4, 2) := by decide +kernel
theorem dX12_readAt_15 : decode cX12_readAt 15 = .ok (.iconst (-1), 1) := by decide +kernel
theorem dX12_readAt_16 : decode cX12_readAt 16 = .ok (.if_icmp .ne 7, 3) := by decide +kernel
theorem dX12_readAt_19 : decode cX12_readAt 19 = .ok (.iconst 0, 1) := by decide +kernel
theorem dX12_readAt_20 : decode cX12_readAt 20 = .ok (.goto 34, 3) := by decide +kernel
theorem dX12_readAt_23 : decode cX12_readAt 23 = .ok (.aload_n 0, 1) := by decide +kernel
theorem dX12_readAt_24 : decode cX12_readAt 24 = .ok (.getfield 31, 3) := by decide +kernel
theorem dX12_readAt_27 : decode cX12_readAt 27 = .ok (.iload_n 2, 1) := by decide +kernel
theorem dX12_readAt_28 : decode cX12_readAt 28 = .ok (.aaload, 1) := by decide +kernel
theorem dX12_readAt_29 : decode cX12_readAt 29 = .ok (.iconst 0, 1) := by decide +kernel
theorem dX12_readAt_30 : decode cX12_readAt 30 = .ok (.iaload, 1) := by decide +kernel
theorem dX12_readAt_31 : decode cX12_readAt 31 = .ok (.aload_n 1, 1) := by decide +kernel
theorem dX12_readAt_32 : decode cX12_readAt 32 = .ok (.bipush 35, 2) := by decide +kernel
theorem dX12_readAt_34 : decode cX12_readAt 34 = .ok (.iload_n 2, 1) := by decide +kernel
theorem dX12_readAt_35 : decode cX12_readAt 35 = .ok (.iload_n 3, 1) := by decide +kernel
theorem dX12_readAt_36 : decode cX12_readAt 36 = .ok (.invokestatic 301, 3) := by decide +kernel
theorem dX12_readAt_39 : decode cX12_readAt 39 = .ok (.iadd, 1) := by decide +kernel
theorem dX12_readAt_40 : decode cX12_readAt 40 = .ok (.iaload, 1) := by decide +kernel
theorem dX12_readAt_41 : decode cX12_readAt 41 = .ok (.iload 4, 2) := by decide +kernel
theorem dX12_readAt_43 : decode cX12_readAt 43 = .ok (.bipush 100, 2) := by decide +kernel
theorem dX12_readAt_45 : decode cX12_readAt 45 = .ok (.idiv, 1) := by decide +kernel
theorem dX12_readAt_46 : decode cX12_readAt 46 = .ok (.iload 4, 2) := by decide +kernel
theorem dX12_readAt_48 : decode cX12_readAt 48 = .ok (.bipush 100, 2) := by decide +kernel
theorem dX12_readAt_50 : decode cX12_readAt 50 = .ok (.irem, 1) := by decide +kernel
theorem dX12_readAt_51 : decode cX12_readAt 51 = .ok (.invokestatic 276, 3) := by decide +kernel
theorem dX12_readAt_54 : decode cX12_readAt 54 = .ok (.ireturn, 1) := by decide +kernel
theorem dX12_blanksFrom_0 : decode cX12_blanksFrom 0 = .ok (.iload_n 2, 1) := by decide +kernel
theorem dX12_blanksFrom_1 : decode cX12_blanksFrom 1 = .ok (.istore_n 3, 1) := by decide +kernel
theorem dX12_blanksFrom_2 : decode cX12_blanksFrom 2 = .ok (.iload_n 3, 1) := by decide +kernel
theorem dX12_blanksFrom_3 : decode cX12_blanksFrom 3 = .ok (.bipush 24, 2) := by decide +kernel
theorem dX12_blanksFrom_5 : decode cX12_blanksFrom 5 = .ok (.if_icmp .ge 32, 3) := by decide +kernel
theorem dX12_blanksFrom_8 : decode cX12_blanksFrom 8 = .ok (.aload_n 0, 1) := by decide +kernel
theorem dX12_blanksFrom_9 : decode cX12_blanksFrom 9 = .ok (.bipush 35, 2) := by decide +kernel
theorem dX12_blanksFrom_11 : decode cX12_blanksFrom 11 = .ok (.iload_n 1, 1) := by decide +kernel
theorem dX12_blanksFrom_12 : decode cX12_blanksFrom 12 = .ok (.iload_n 3, 1) := by decide +kernel
theorem dX12_blanksFrom_13 : decode cX12_blanksFrom 13 = .ok (.invokestatic 301, 3) := by decide +kernel
theorem dX12_blanksFrom_16 : decode cX12_blanksFrom 16 = .ok (.iadd, 1) := by decide +kernel
theorem dX12_blanksFrom_17 : decode cX12_blanksFrom 17 = .ok (.iconst (-1), 1) := by decide +kernel
theorem dX12_blanksFrom_18 : decode cX12_blanksFrom 18 = .ok (.iastore, 1) := by decide +kernel
theorem dX12_blanksFrom_19 : decode cX12_blanksFrom 19 = .ok (.aload_n 0, 1) := by decide +kernel
theorem dX12_blanksFrom_20 : decode cX12_blanksFrom 20 = .ok (.sipush 227, 3) := by decide +kernel
theorem dX12_blanksFrom_23 : decode cX12_blanksFrom 23 = .ok (.iload_n 1, 1) := by decide +kernel
theorem dX12_blanksFrom_24 : decode cX12_blanksFrom 24 = .ok (.iload_n 3, 1) := by decide +kernel
theorem dX12_blanksFrom_25 : decode cX12_blanksFrom 25 = .ok (.invokestatic 301, 3) := by decide +kernel
theorem dX12_blanksFrom_28 : decode cX12_blanksFrom 28 = .ok (.iadd, 1) := by decide +kernel
theorem dX12_blanksFrom_29 : decode cX12_blanksFrom 29 = .ok (.iconst (-1), 1) := by decide +kernel
theorem dX12_blanksFrom_30 : decode cX12_blanksFrom 30 = .ok (.iastore, 1) := by decide +kernel
theorem dX12_blanksFrom_31 : decode cX12_blanksFrom 31 = .ok (.iinc 3 1, 3) := by decide +kernel
theorem dX12_blanksFrom_34 : decode cX12_blanksFrom 34 = .ok (.goto (-32), 3) := by decide +kernel
theorem dX12_blanksFrom_37 : decode cX12_blanksFrom 37 = .ok (.return_, 1) := by decide +kernel
theorem dX12_canRead_0 : decode cX12_canRead 0 = .ok (.aload_n 1, 1) := by decide +kernel
theorem dX12_canRead_1 : decode cX12_canRead 1 = .ok (.bipush 16, 2) := by decide +kernel
theorem dX12_canRead_3 : decode cX12_canRead 3 = .ok (.iload_n 2, 1) := by decide +kernel
theorem dX12_canRead_4 : decode cX12_canRead 4 = .ok (.iadd, 1) := by decide +kernel
theorem dX12_canRead_5 : decode cX12_canRead 5 = .ok (.iaload, 1) := by decide +kernel
theorem dX12_canRead_6 : decode cX12_canRead 6 = .ok (.iconst (-1), 1) := by decide +kernel
theorem dX12_canRead_7 : decode cX12_canRead 7 = .ok (.if_icmp .eq 31, 3) := by decide +kernel
theorem dX12_canRead_10 : decode cX12_canRead 10 = .ok (.aload_n 1, 1) := by decide +kernel
theorem dX12_canRead_11 : decode cX12_canRead 11 = .ok (.bipush 24, 2) := by decide +kernel
theorem dX12_canRead_13 : decode cX12_canRead 13 = .ok (.iload_n 2, 1) := by decide +kernel
theorem dX12_canRead_14 : decode cX12_canRead 14 = .ok (.iadd, 1) := by decide +kernel
theorem dX12_canRead_15 : decode cX12_canRead 15 = .ok (.iaload, 1) := by decide +kernel
theorem dX12_canRead_16 : decode cX12_canRead 16 = .ok (.aload_n 1, 1) := by decide +kernel
theorem dX12_canRead_17 : decode cX12_canRead 17 = .ok (.bipush 16, 2) := by decide +kernel
theorem dX12_canRead_19 : decode cX12_canRead 19 = .ok (.iload_n 2, 1) := by decide +kernel
theorem dX12_canRead_20 : decode cX12_canRead 20 = .ok (.iadd, 1) := by decide +kernel
theorem dX12_canRead_21 : decode cX12_canRead 21 = .ok (.iaload, 1) := by decide +kernel
theorem dX12_canRead_22 : decode cX12_canRead 22 = .ok (.if_icmp .ge 16, 3) := by decide +kernel
theorem dX12_canRead_25 : decode cX12_canRead 25 = .ok (.aload_n 0, 1) := by decide +kernel
theorem dX12_canRead_26 : decode cX12_canRead 26 = .ok (.aload_n 1, 1) := by decide +kernel
theorem dX12_canRead_27 : decode cX12_canRead 27 = .ok (.iload_n 2, 1) := by decide +kernel
theorem dX12_canRead_28 : decode cX12_canRead 28 = .ok (.invokevirtual 286, 3) := by decide +kernel
theorem dX12_canRead_31 : decode cX12_canRead 31 = .ok (.ifCond .ne 7, 3) := by decide +kernel
theorem dX12_canRead_34 : decode cX12_canRead 34 = .ok (.iconst 1, 1) := by decide +kernel
theorem dX12_canRead_35 : decode cX12_canRead 35 = .ok (.goto 4, 3) := by decide +kernel
theorem dX12_canRead_38 : decode cX12_canRead 38 = .ok (.iconst 0, 1) := by decide +kernel
theorem dX12_canRead_39 : decode cX12_canRead 39 = .ok (.ireturn, 1) := by decide +kernel
theorem dX12_reads_0 : decode cX12_reads 0 = .ok (.aload_n 0, 1) := by decide +kernel
theorem dX12_reads_1 : decode cX12_reads 1 = .ok (.aload_n 1, 1) := by decide +kernel
theorem dX12_reads_2 : decode cX12_reads 2 = .ok (.iload_n 2, 1) := by decide +kernel
theorem dX12_reads_3 : decode cX12_reads 3 = .ok (.invokevirtual 304, 3) := by decide +kernel
theorem dX12_reads_6 : decode cX12_reads 6 = .ok (.ifCond .ne 5, 3) := by decide +kernel
theorem dX12_reads_9 : decode cX12_reads 9 = .ok (.iconst 0, 1) := by decide +kernel
theorem dX12_reads_10 : decode cX12_reads 10 = .ok (.ireturn, 1) := by decide +kernel
theorem dX12_reads_11 : decode cX12_reads 11 = .ok (.aload_n 1, 1) := by decide +kernel
theorem dX12_reads_12 : decode cX12_reads 12 = .ok (.bipush 33, 2) := by decide +kernel
theorem dX12_reads_14 : decode cX12_reads 14 = .ok (.dup2, 1) := by decide +kernel
theorem dX12_reads_15 : decode cX12_reads 15 = .ok (.iaload, 1) := by decide +kernel
theorem dX12_reads_16 : decode cX12_reads 16 = .ok (.aload_n 0, 1) := by decide +kernel
theorem dX12_reads_17 : decode cX12_reads 17 = .ok (.aload_n 1, 1) := by decide +kernel
theorem dX12_reads_18 : decode cX12_reads 18 = .ok (.iload_n 2, 1) := by decide +kernel
theorem dX12_reads_19 : decode cX12_reads 19 = .ok (.iload_n 3, 1) := by decide +kernel
theorem dX12_reads_20 : decode cX12_reads 20 = .ok (.invokevirtual 307, 3) := by decide +kernel
theorem dX12_reads_23 : decode cX12_reads 23 = .ok (.bipush 50, 2) := by decide +kernel
theorem dX12_reads_25 : decode cX12_reads 25 = .ok (.if_icmp .lt 7, 3) := by decide +kernel
theorem dX12_reads_28 : decode cX12_reads 28 = .ok (.iconst 1, 1) := by decide +kernel
theorem dX12_reads_29 : decode cX12_reads 29 = .ok (.goto 4, 3) := by decide +kernel
theorem dX12_reads_32 : decode cX12_reads 32 = .ok (.iconst 0, 1) := by decide +kernel
theorem dX12_reads_33 : decode cX12_reads 33 = .ok (.iadd, 1) := by decide +kernel
theorem dX12_reads_34 : decode cX12_reads 34 = .ok (.iastore, 1) := by decide +kernel
theorem dX12_reads_35 : decode cX12_reads 35 = .ok (.iload_n 2, 1) := by decide +kernel
theorem dX12_reads_36 : decode cX12_reads 36 = .ok (.aload_n 1, 1) := by decide +kernel
theorem dX12_reads_37 : decode cX12_reads 37 = .ok (.bipush 24, 2) := by decide +kernel
theorem dX12_reads_39 : decode cX12_reads 39 = .ok (.iload_n 2, 1) := by decide +kernel
theorem dX12_reads_40 : decode cX12_reads 40 = .ok (.iadd, 1) := by decide +kernel
theorem dX12_reads_41 : decode cX12_reads 41 = .ok (.iaload, 1) := by decide +kernel
theorem dX12_reads_42 : decode cX12_reads 42 = .ok (.invokestatic 301, 3) := by decide +kernel
theorem dX12_reads_45 : decode cX12_reads 45 = .ok (.istore 4, 2) := by decide +kernel
theorem dX12_reads_47 : decode cX12_reads 47 = .ok (.aload_n 1, 1) := by decide +kernel
theorem dX12_reads_48 : decode cX12_reads 48 = .ok (.bipush 35, 2) := by decide +kernel
theorem dX12_reads_50 : decode cX12_reads 50 = .ok (.iload 4, 2) := by decide +kernel
theorem dX12_reads_52 : decode cX12_reads 52 = .ok (.iadd, 1) := by decide +kernel
theorem dX12_reads_53 : decode cX12_reads 53 = .ok (.iload_n 3, 1) := by decide +kernel
theorem dX12_reads_54 : decode cX12_reads 54 = .ok (.iastore, 1) := by decide +kernel
theorem dX12_reads_55 : decode cX12_reads 55 = .ok (.aload_n 1, 1) := by decide +kernel
theorem dX12_reads_56 : decode cX12_reads 56 = .ok (.sipush 227, 3) := by decide +kernel
theorem dX12_reads_59 : decode cX12_reads 59 = .ok (.iload 4, 2) := by decide +kernel
theorem dX12_reads_61 : decode cX12_reads 61 = .ok (.iadd, 1) := by decide +kernel
theorem dX12_reads_62 : decode cX12_reads 62 = .ok (.bipush 100, 2) := by decide +kernel
theorem dX12_reads_64 : decode cX12_reads 64 = .ok (.aload_n 1, 1) := by decide +kernel
theorem dX12_reads_65 : decode cX12_reads 65 = .ok (.iconst 0, 1) := by decide +kernel
theorem dX12_reads_66 : decode cX12_reads 66 = .ok (.iload_n 2, 1) := by decide +kernel
theorem dX12_reads_67 : decode cX12_reads 67 = .ok (.iadd, 1) := by decide +kernel
theorem dX12_reads_68 : decode cX12_reads 68 = .ok (.iaload, 1) := by decide +kernel
theorem dX12_reads_69 : decode cX12_reads 69 = .ok (.imul, 1) := by decide +kernel
theorem dX12_reads_70 : decode cX12_reads 70 = .ok (.aload_n 1, 1) := by decide +kernel
theorem dX12_reads_71 : decode cX12_reads 71 = .ok (.bipush 8, 2) := by decide +kernel
theorem dX12_reads_73 : decode cX12_reads 73 = .ok (.iload_n 2, 1) := by decide +kernel
theorem dX12_reads_74 : decode cX12_reads 74 = .ok (.iadd, 1) := by decide +kernel
theorem dX12_reads_75 : decode cX12_reads 75 = .ok (.iaload, 1) := by decide +kernel
theorem dX12_reads_76 : decode cX12_reads 76 = .ok (.iadd, 1) := by decide +kernel
theorem dX12_reads_77 : decode cX12_reads 77 = .ok (.iastore, 1) := by decide +kernel
theorem dX12_reads_78 : decode cX12_reads 78 = .ok (.aload_n 1, 1) := by decide +kernel
theorem dX12_reads_79 : decode cX12_reads 79 = .ok (.bipush 24, 2) := by decide +kernel
theorem dX12_reads_81 : decode cX12_reads 81 = .ok (.iload_n 2, 1) := by decide +kernel
theorem dX12_reads_82 : decode cX12_reads 82 = .ok (.iadd, 1) := by decide +kernel
theorem dX12_reads_83 : decode cX12_reads 83 = .ok (.dup2, 1) := by decide +kernel
theorem dX12_reads_84 : decode cX12_reads 84 = .ok (.iaload, 1) := by decide +kernel
theorem dX12_reads_85 : decode cX12_reads 85 = .ok (.iconst 1, 1) := by decide +kernel
theorem dX12_reads_86 : decode cX12_reads 86 = .ok (.iadd, 1) := by decide +kernel
theorem dX12_reads_87 : decode cX12_reads 87 = .ok (.iastore, 1) := by decide +kernel
theorem dX12_reads_88 : decode cX12_reads 88 = .ok (.aload_n 1, 1) := by decide +kernel
theorem dX12_reads_89 : decode cX12_reads 89 = .ok (.bipush 34, 2) := by decide +kernel
theorem dX12_reads_91 : decode cX12_reads 91 = .ok (.dup2, 1) := by decide +kernel
theorem dX12_reads_92 : decode cX12_reads 92 = .ok (.iaload, 1) := by decide +kernel
theorem dX12_reads_93 : decode cX12_reads 93 = .ok (.iconst 1, 1) := by decide +kernel
theorem dX12_reads_94 : decode cX12_reads 94 = .ok (.iadd, 1) := by decide +kernel
theorem dX12_reads_95 : decode cX12_reads 95 = .ok (.iastore, 1) := by decide +kernel
theorem dX12_reads_96 : decode cX12_reads 96 = .ok (.iconst 1, 1) := by decide +kernel
theorem dX12_reads_97 : decode cX12_reads 97 = .ok (.ireturn, 1) := by decide +kernel
theorem dX12_hears_0 : decode cX12_hears 0 = .ok (.aload_n 0, 1) := by decide +kernel
theorem dX12_hears_1 : decode cX12_hears 1 = .ok (.getfield 37, 3) := by decide +kernel
theorem dX12_hears_4 : decode cX12_hears 4 = .ok (.iload_n 2, 1) := by decide +kernel
theorem dX12_hears_5 : decode cX12_hears 5 = .ok (.aaload, 1) := by decide +kernel
theorem dX12_hears_6 : decode cX12_hears 6 = .ok (.iconst 0, 1) := by decide +kernel
theorem dX12_hears_7 : decode cX12_hears 7 = .ok (.iaload, 1) := by decide +kernel
theorem dX12_hears_8 : decode cX12_hears 8 = .ok (.istore_n 3, 1) := by decide +kernel
theorem dX12_hears_9 : decode cX12_hears 9 = .ok (.aload_n 1, 1) := by decide +kernel
theorem dX12_hears_10 : decode cX12_hears 10 = .ok (.bipush 24, 2) := by decide +kernel
theorem dX12_hears_12 : decode cX12_hears 12 = .ok (.iload_n 3, 1) := by decide +kernel
theorem dX12_hears_13 : decode cX12_hears 13 = .ok (.iadd, 1) := by decide +kernel
theorem dX12_hears_14 : decode cX12_hears 14 = .ok (.iaload, 1) := by decide +kernel
theorem dX12_hears_15 : decode cX12_hears 15 = .ok (.ifCond .le 37, 3) := by decide +kernel
theorem dX12_hears_18 : decode cX12_hears 18 = .ok (.aload_n 0, 1) := by decide +kernel
theorem dX12_hears_19 : decode cX12_hears 19 = .ok (.aload_n 1, 1) := by decide +kernel
theorem dX12_hears_20 : decode cX12_hears 20 = .ok (.aload_n 0, 1) := by decide +kernel
theorem dX12_hears_21 : decode cX12_hears 21 = .ok (.getfield 37, 3) := by decide +kernel
theorem dX12_hears_24 : decode cX12_hears 24 = .ok (.iload_n 2, 1) := by decide +kernel
theorem dX12_hears_25 : decode cX12_hears 25 = .ok (.aaload, 1) := by decide +kernel
theorem dX12_hears_26 : decode cX12_hears 26 = .ok (.iconst 1, 1) := by decide +kernel
theorem dX12_hears_27 : decode cX12_hears 27 = .ok (.iaload, 1) := by decide +kernel
theorem dX12_hears_28 : decode cX12_hears 28 = .ok (.aload_n 0, 1) := by decide +kernel
theorem dX12_hears_29 : decode cX12_hears 29 = .ok (.aload_n 1, 1) := by decide +kernel
theorem dX12_hears_30 : decode cX12_hears 30 = .ok (.iload_n 3, 1) := by decide +kernel
theorem dX12_hears_31 : decode cX12_hears 31 = .ok (.aload_n 1, 1) := by decide +kernel
theorem dX12_hears_32 : decode cX12_hears 32 = .ok (.bipush 24, 2) := by decide +kernel
theorem dX12_hears_34 : decode cX12_hears 34 = .ok (.iload_n 3, 1) := by decide +kernel
theorem dX12_hears_35 : decode cX12_hears 35 = .ok (.iadd, 1) := by decide +kernel
theorem dX12_hears_36 : decode cX12_hears 36 = .ok (.iaload, 1) := by decide +kernel
theorem dX12_hears_37 : decode cX12_hears 37 = .ok (.iconst 1, 1) := by decide +kernel
theorem dX12_hears_38 : decode cX12_hears 38 = .ok (.isub, 1) := by decide +kernel
theorem dX12_hears_39 : decode cX12_hears 39 = .ok (.invokevirtual 310, 3) := by decide +kernel
theorem dX12_hears_42 : decode cX12_hears 42 = .ok (.invokevirtual 313, 3) := by decide +kernel
theorem dX12_hears_45 : decode cX12_hears 45 = .ok (.ifCond .eq 7, 3) := by decide +kernel
theorem dX12_hears_48 : decode cX12_hears 48 = .ok (.iconst 1, 1) := by decide +kernel
theorem dX12_hears_49 : decode cX12_hears 49 = .ok (.goto 4, 3) := by decide +kernel
theorem dX12_hears_52 : decode cX12_hears 52 = .ok (.iconst 0, 1) := by decide +kernel
theorem dX12_hears_53 : decode cX12_hears 53 = .ok (.ireturn, 1) := by decide +kernel
theorem dX12_copiesSheet_0 : decode cX12_copiesSheet 0 = .ok (.aload_n 1, 1) := by decide +kernel
theorem dX12_copiesSheet_1 : decode cX12_copiesSheet 1 = .ok (.bipush 16, 2) := by decide +kernel
theorem dX12_copiesSheet_3 : decode cX12_copiesSheet 3 = .ok (.iload_n 2, 1) := by decide +kernel
theorem dX12_copiesSheet_4 : decode cX12_copiesSheet 4 = .ok (.iadd, 1) := by decide +kernel
theorem dX12_copiesSheet_5 : decode cX12_copiesSheet 5 = .ok (.iaload, 1) := by decide +kernel
theorem dX12_copiesSheet_6 : decode cX12_copiesSheet 6 = .ok (.iconst (-1), 1) := by decide +kernel
theorem dX12_copiesSheet_7 : decode cX12_copiesSheet 7 = .ok (.if_icmp .eq 54, 3) := by decide +kernel
theorem dX12_copiesSheet_10 : decode cX12_copiesSheet 10 = .ok (.aload_n 1, 1) := by decide +kernel
theorem dX12_copiesSheet_11 : decode cX12_copiesSheet 11 = .ok (.bipush 16, 2) := by decide +kernel
theorem dX12_copiesSheet_13 : decode cX12_copiesSheet 13 = .ok (.iload_n 3, 1) := by decide +kernel
theorem dX12_copiesSheet_14 : decode cX12_copiesSheet 14 = .ok (.iadd, 1) := by decide +kernel
theorem dX12_copiesSheet_15 : decode cX12_copiesSheet 15 = .ok (.iaload, 1) := by decide +kernel
theorem dX12_copiesSheet_16 : decode cX12_copiesSheet 16 = .ok (.iconst (-1), 1) := by decide +kernel
theorem dX12_copiesSheet_17 : decode cX12_copiesSheet 17 = .ok (.if_icmp .eq 44, 3) := by decide +kernel
theorem dX12_copiesSheet_20 : decode cX12_copiesSheet 20 = .ok (.aload_n 0, 1) := by decide +kernel
theorem dX12_copiesSheet_21 : decode cX12_copiesSheet 21 = .ok (.getfield 31, 3) := by decide +kernel
theorem dX12_copiesSheet_24 : decode cX12_copiesSheet 24 = .ok (.iload_n 2, 1) := by decide +kernel
theorem dX12_copiesSheet_25 : decode cX12_copiesSheet 25 = .ok (.aaload, 1) := by decide +kernel
theorem dX12_copiesSheet_26 : decode cX12_copiesSheet 26 = .ok (.iconst 0, 1) := by decide +kernel
theorem dX12_copiesSheet_27 : decode cX12_copiesSheet 27 = .ok (.iaload, 1) := by decide +kernel
theorem dX12_copiesSheet_28 : decode cX12_copiesSheet 28 = .ok (.aload_n 0, 1) := by decide +kernel
theorem dX12_copiesSheet_29 : decode cX12_copiesSheet 29 = .ok (.getfield 31, 3) := by decide +kernel
theorem dX12_copiesSheet_32 : decode cX12_copiesSheet 32 = .ok (.iload_n 3, 1) := by decide +kernel
theorem dX12_copiesSheet_33 : decode cX12_copiesSheet 33 = .ok (.aaload, 1) := by decide +kernel
theorem dX12_copiesSheet_34 : decode cX12_copiesSheet 34 = .ok (.iconst 0, 1) := by decide +kernel
theorem dX12_copiesSheet_35 : decode cX12_copiesSheet 35 = .ok (.iaload, 1) := by decide +kernel
theorem dX12_copiesSheet_36 : decode cX12_copiesSheet 36 = .ok (.if_icmp .ne 25, 3) := by decide +kernel
theorem dX12_copiesSheet_39 : decode cX12_copiesSheet 39 = .ok (.iload 4, 2) := by decide +kernel
theorem dX12_copiesSheet_41 : decode cX12_copiesSheet 41 = .ok (.aload_n 1, 1) := by decide +kernel
theorem dX12_copiesSheet_42 : decode cX12_copiesSheet 42 = .ok (.bipush 16, 2) := by decide +kernel
theorem dX12_copiesSheet_44 : decode cX12_copiesSheet 44 = .ok (.iload_n 2, 1) := by decide +kernel
theorem dX12_copiesSheet_45 : decode cX12_copiesSheet 45 = .ok (.iadd, 1) := by decide +kernel
theorem dX12_copiesSheet_46 : decode cX12_copiesSheet 46 = .ok (.iaload, 1) := by decide +kernel
theorem dX12_copiesSheet_47 : decode cX12_copiesSheet 47 = .ok (.if_icmp .gt 14, 3) := by decide +kernel
theorem dX12_copiesSheet_50 : decode cX12_copiesSheet 50 = .ok (.iload 4, 2) := by decide +kernel
theorem dX12_copiesSheet_52 : decode cX12_copiesSheet 52 = .ok (.aload_n 1, 1) := by decide +kernel
theorem dX12_copiesSheet_53 : decode cX12_copiesSheet 53 = .ok (.bipush 16, 2) := by decide +kernel
theorem dX12_copiesSheet_55 : decode cX12_copiesSheet 55 = .ok (.iload_n 3, 1) := by decide +kernel
theorem dX12_copiesSheet_56 : decode cX12_copiesSheet 56 = .ok (.iadd, 1) := by decide +kernel
theorem dX12_copiesSheet_57 : decode cX12_copiesSheet 57 = .ok (.iaload, 1) := by decide +kernel
theorem dX12_copiesSheet_58 : decode cX12_copiesSheet 58 = .ok (.if_icmp .le 5, 3) := by decide +kernel
theorem dX12_copiesSheet_61 : decode cX12_copiesSheet 61 = .ok (.iconst 0, 1) := by decide +kernel
theorem dX12_copiesSheet_62 : decode cX12_copiesSheet 62 = .ok (.ireturn, 1) := by decide +kernel
theorem dX12_copiesSheet_63 : decode cX12_copiesSheet 63 = .ok (.iconst 0, 1) := by decide +kernel
theorem dX12_copiesSheet_64 : decode cX12_copiesSheet 64 = .ok (.istore 5, 2) := by decide +kernel
theorem dX12_copiesSheet_66 : decode cX12_copiesSheet 66 = .ok (.iload 5, 2) := by decide +kernel
theorem dX12_copiesSheet_68 : decode cX12_copiesSheet 68 = .ok (.iload 4, 2) := by decide +kernel
theorem dX12_copiesSheet_70 : decode cX12_copiesSheet 70 = .ok (.if_icmp .ge 55, 3) := by decide +kernel
theorem dX12_copiesSheet_73 : decode cX12_copiesSheet 73 = .ok (.aload_n 1, 1) := by decide +kernel
theorem dX12_copiesSheet_74 : decode cX12_copiesSheet 74 = .ok (.bipush 35, 2) := by decide +kernel
theorem dX12_copiesSheet_76 : decode cX12_copiesSheet 76 = .ok (.iload_n 3, 1) := by decide +kernel
theorem dX12_copiesSheet_77 : decode cX12_copiesSheet 77 = .ok (.iload 5, 2) := by decide +kernel
theorem dX12_copiesSheet_79 : decode cX12_copiesSheet 79 = .ok (.invokestatic 301, 3) := by decide +kernel
theorem dX12_copiesSheet_82 : decode cX12_copiesSheet 82 = .ok (.iadd, 1) := by decide +kernel
theorem dX12_copiesSheet_83 : decode cX12_copiesSheet 83 = .ok (.aload_n 1, 1) := by decide +kernel
theorem dX12_copiesSheet_84 : decode cX12_copiesSheet 84 = .ok (.bipush 35, 2) := by decide +kernel
theorem dX12_copiesSheet_86 : decode cX12_copiesSheet 86 = .ok (.iload_n 2, 1) := by decide +kernel
theorem dX12_copiesSheet_87 : decode cX12_copiesSheet 87 = .ok (.iload 5, 2) := by decide +kernel
theorem dX12_copiesSheet_89 : decode cX12_copiesSheet 89 = .ok (.invokestatic 301, 3) := by decide +kernel
theorem dX12_copiesSheet_92 : decode cX12_copiesSheet 92 = .ok (.iadd, 1) := by decide +kernel
theorem dX12_copiesSheet_93 : decode cX12_copiesSheet 93 = .ok (.iaload, 1) := by decide +kernel
theorem dX12_copiesSheet_94 : decode cX12_copiesSheet 94 = .ok (.iastore, 1) := by decide +kernel
theorem dX12_copiesSheet_95 : decode cX12_copiesSheet 95 = .ok (.aload_n 1, 1) := by decide +kernel
theorem dX12_copiesSheet_96 : decode cX12_copiesSheet 96 = .ok (.sipush 227, 3) := by decide +kernel
theorem dX12_copiesSheet_99 : decode cX12_copiesSheet 99 = .ok (.iload_n 3, 1) := by decide +kernel
theorem dX12_copiesSheet_100 : decode cX12_copiesSheet 100 = .ok (.iload 5, 2) := by decide +kernel
theorem dX12_copiesSheet_102 : decode cX12_copiesSheet 102 = .ok (.invokestatic 301, 3) := by decide +kernel
theorem dX12_copiesSheet_105 : decode cX12_copiesSheet 105 = .ok (.iadd, 1) := by decide +kernel
theorem dX12_copiesSheet_106 : decode cX12_copiesSheet 106 = .ok (.aload_n 1, 1) := by decide +kernel
theorem dX12_copiesSheet_107 : decode cX12_copiesSheet 107 = .ok (.sipush 227, 3) := by decide +kernel
theorem dX12_copiesSheet_110 : decode cX12_copiesSheet 110 = .ok (.iload_n 2, 1) := by decide +kernel
theorem dX12_copiesSheet_111 : decode cX12_copiesSheet 111 = .ok (.iload 5, 2) := by decide +kernel
theorem dX12_copiesSheet_113 : decode cX12_copiesSheet 113 = .ok (.invokestatic 301, 3) := by decide +kernel
theorem dX12_copiesSheet_116 : decode cX12_copiesSheet 116 = .ok (.iadd, 1) := by decide +kernel
theorem dX12_copiesSheet_117 : decode cX12_copiesSheet 117 = .ok (.iaload, 1) := by decide +kernel
theorem dX12_copiesSheet_118 : decode cX12_copiesSheet 118 = .ok (.iastore, 1) := by decide +kernel
theorem dX12_copiesSheet_119 : decode cX12_copiesSheet 119 = .ok (.iinc 5 1, 3) := by decide +kernel
theorem dX12_copiesSheet_122 : decode cX12_copiesSheet 122 = .ok (.goto (-56), 3) := by decide +kernel
theorem dX12_copiesSheet_125 : decode cX12_copiesSheet 125 = .ok (.aload_n 1, 1) := by decide +kernel
theorem dX12_copiesSheet_126 : decode cX12_copiesSheet 126 = .ok (.bipush 24, 2) := by decide +kernel
theorem dX12_copiesSheet_128 : decode cX12_copiesSheet 128 = .ok (.iload_n 3, 1) := by decide +kernel
theorem dX12_copiesSheet_129 : decode cX12_copiesSheet 129 = .ok (.iadd, 1) := by decide +kernel
theorem dX12_copiesSheet_130 : decode cX12_copiesSheet 130 = .ok (.aload_n 1, 1) := by decide +kernel
theorem dX12_copiesSheet_131 : decode cX12_copiesSheet 131 = .ok (.bipush 24, 2) := by decide +kernel
theorem dX12_copiesSheet_133 : decode cX12_copiesSheet 133 = .ok (.iload_n 3, 1) := by decide +kernel
theorem dX12_copiesSheet_134 : decode cX12_copiesSheet 134 = .ok (.iadd, 1) := by decide +kernel
theorem dX12_copiesSheet_135 : decode cX12_copiesSheet 135 = .ok (.iaload, 1) := by decide +kernel
theorem dX12_copiesSheet_136 : decode cX12_copiesSheet 136 = .ok (.iload 4, 2) := by decide +kernel
theorem dX12_copiesSheet_138 : decode cX12_copiesSheet 138 = .ok (.aload_n 1, 1) := by decide +kernel
theorem dX12_copiesSheet_139 : decode cX12_copiesSheet 139 = .ok (.bipush 24, 2) := by decide +kernel
theorem dX12_copiesSheet_141 : decode cX12_copiesSheet 141 = .ok (.iload_n 2, 1) := by decide +kernel
theorem dX12_copiesSheet_142 : decode cX12_copiesSheet 142 = .ok (.iadd, 1) := by decide +kernel
theorem dX12_copiesSheet_143 : decode cX12_copiesSheet 143 = .ok (.iaload, 1) := by decide +kernel
theorem dX12_copiesSheet_144 : decode cX12_copiesSheet 144 = .ok (.invokestatic 234, 3) := by decide +kernel
theorem dX12_copiesSheet_147 : decode cX12_copiesSheet 147 = .ok (.invokestatic 237, 3) := by decide +kernel
theorem dX12_copiesSheet_150 : decode cX12_copiesSheet 150 = .ok (.iastore, 1) := by decide +kernel
theorem dX12_copiesSheet_151 : decode cX12_copiesSheet 151 = .ok (.iconst 1, 1) := by decide +kernel
theorem dX12_copiesSheet_152 : decode cX12_copiesSheet 152 = .ok (.ireturn, 1) := by decide +kernel
theorem dX12_dayEnds_0 : decode cX12_dayEnds 0 = .ok (.aload_n 1, 1) := by decide +kernel
theorem dX12_dayEnds_1 : decode cX12_dayEnds 1 = .ok (.bipush 32, 2) := by decide +kernel
theorem dX12_dayEnds_3 : decode cX12_dayEnds 3 = .ok (.dup2, 1) := by decide +kernel
theorem dX12_dayEnds_4 : decode cX12_dayEnds 4 = .ok (.iaload, 1) := by decide +kernel
theorem dX12_dayEnds_5 : decode cX12_dayEnds 5 = .ok (.iconst 1, 1) := by decide +kernel
theorem dX12_dayEnds_6 : decode cX12_dayEnds 6 = .ok (.iadd, 1) := by decide +kernel
theorem dX12_dayEnds_7 : decode cX12_dayEnds 7 = .ok (.iastore, 1) := by decide +kernel
theorem dX12_dayEnds_8 : decode cX12_dayEnds 8 = .ok (.iconst 0, 1) := by decide +kernel
theorem dX12_dayEnds_9 : decode cX12_dayEnds 9 = .ok (.istore_n 2, 1) := by decide +kernel
theorem dX12_dayEnds_10 : decode cX12_dayEnds 10 = .ok (.iload_n 2, 1) := by decide +kernel
theorem dX12_dayEnds_11 : decode cX12_dayEnds 11 = .ok (.aload_n 0, 1) := by decide +kernel
theorem dX12_dayEnds_12 : decode cX12_dayEnds 12 = .ok (.getfield 23, 3) := by decide +kernel
theorem dX12_dayEnds_15 : decode cX12_dayEnds 15 = .ok (.iconst 0, 1) := by decide +kernel
theorem dX12_dayEnds_16 : decode cX12_dayEnds 16 = .ok (.iaload, 1) := by decide +kernel
theorem dX12_dayEnds_17 : decode cX12_dayEnds 17 = .ok (.if_icmp .ge 106, 3) := by decide +kernel
theorem dX12_dayEnds_20 : decode cX12_dayEnds 20 = .ok (.aload_n 1, 1) := by decide +kernel
theorem dX12_dayEnds_21 : decode cX12_dayEnds 21 = .ok (.bipush 24, 2) := by decide +kernel
theorem dX12_dayEnds_23 : decode cX12_dayEnds 23 = .ok (.iload_n 2, 1) := by decide +kernel
theorem dX12_dayEnds_24 : decode cX12_dayEnds 24 = .ok (.iadd, 1) := by decide +kernel
theorem dX12_dayEnds_25 : decode cX12_dayEnds 25 = .ok (.iaload, 1) := by decide +kernel
theorem dX12_dayEnds_26 : decode cX12_dayEnds 26 = .ok (.ifCond .ne 6, 3) := by decide +kernel
theorem dX12_dayEnds_29 : decode cX12_dayEnds 29 = .ok (.goto 88, 3) := by decide +kernel
theorem dX12_dayEnds_32 : decode cX12_dayEnds 32 = .ok (.aload_n 1, 1) := by decide +kernel
theorem dX12_dayEnds_33 : decode cX12_dayEnds 33 = .ok (.bipush 24, 2) := by decide +kernel
theorem dX12_dayEnds_35 : decode cX12_dayEnds 35 = .ok (.iload_n 2, 1) := by decide +kernel
theorem dX12_dayEnds_36 : decode cX12_dayEnds 36 = .ok (.iadd, 1) := by decide +kernel
theorem dX12_dayEnds_37 : decode cX12_dayEnds 37 = .ok (.dup2, 1) := by decide +kernel
theorem dX12_dayEnds_38 : decode cX12_dayEnds 38 = .ok (.iaload, 1) := by decide +kernel
theorem dX12_dayEnds_39 : decode cX12_dayEnds 39 = .ok (.iconst 1, 1) := by decide +kernel
theorem dX12_dayEnds_40 : decode cX12_dayEnds 40 = .ok (.isub, 1) := by decide +kernel
theorem dX12_dayEnds_41 : decode cX12_dayEnds 41 = .ok (.iastore, 1) := by decide +kernel
theorem dX12_dayEnds_42 : decode cX12_dayEnds 42 = .ok (.iconst 0, 1) := by decide +kernel
theorem dX12_dayEnds_43 : decode cX12_dayEnds 43 = .ok (.istore_n 3, 1) := by decide +kernel
theorem dX12_dayEnds_44 : decode cX12_dayEnds 44 = .ok (.iload_n 3, 1) := by decide +kernel
theorem dX12_dayEnds_45 : decode cX12_dayEnds 45 = .ok (.aload_n 1, 1) := by decide +kernel
theorem dX12_dayEnds_46 : decode cX12_dayEnds 46 = .ok (.bipush 24, 2) := by decide +kernel
theorem dX12_dayEnds_48 : decode cX12_dayEnds 48 = .ok (.iload_n 2, 1) := by decide +kernel
theorem dX12_dayEnds_49 : decode cX12_dayEnds 49 = .ok (.iadd, 1) := by decide +kernel
theorem dX12_dayEnds_50 : decode cX12_dayEnds 50 = .ok (.iaload, 1) := by decide +kernel
theorem dX12_dayEnds_51 : decode cX12_dayEnds 51 = .ok (.if_icmp .ge 55, 3) := by decide +kernel
theorem dX12_dayEnds_54 : decode cX12_dayEnds 54 = .ok (.aload_n 1, 1) := by decide +kernel
theorem dX12_dayEnds_55 : decode cX12_dayEnds 55 = .ok (.bipush 35, 2) := by decide +kernel
theorem dX12_dayEnds_57 : decode cX12_dayEnds 57 = .ok (.iload_n 2, 1) := by decide +kernel
theorem dX12_dayEnds_58 : decode cX12_dayEnds 58 = .ok (.iload_n 3, 1) := by decide +kernel
theorem dX12_dayEnds_59 : decode cX12_dayEnds 59 = .ok (.invokestatic 301, 3) := by decide +kernel
theorem dX12_dayEnds_62 : decode cX12_dayEnds 62 = .ok (.iadd, 1) := by decide +kernel
theorem dX12_dayEnds_63 : decode cX12_dayEnds 63 = .ok (.aload_n 1, 1) := by decide +kernel
theorem dX12_dayEnds_64 : decode cX12_dayEnds 64 = .ok (.bipush 35, 2) := by decide +kernel
theorem dX12_dayEnds_66 : decode cX12_dayEnds 66 = .ok (.iload_n 2, 1) := by decide +kernel
theorem dX12_dayEnds_67 : decode cX12_dayEnds 67 = .ok (.iload_n 3, 1) := by decide +kernel
theorem dX12_dayEnds_68 : decode cX12_dayEnds 68 = .ok (.iconst 1, 1) := by decide +kernel
theorem dX12_dayEnds_69 : decode cX12_dayEnds 69 = .ok (.iadd, 1) := by decide +kernel
theorem dX12_dayEnds_70 : decode cX12_dayEnds 70 = .ok (.invokestatic 301, 3) := by decide +kernel
theorem dX12_dayEnds_73 : decode cX12_dayEnds 73 = .ok (.iadd, 1) := by decide +kernel
theorem dX12_dayEnds_74 : decode cX12_dayEnds 74 = .ok (.iaload, 1) := by decide +kernel
theorem dX12_dayEnds_75 : decode cX12_dayEnds 75 = .ok (.iastore, 1) := by decide +kernel
theorem dX12_dayEnds_76 : decode cX12_dayEnds 76 = .ok (.aload_n 1, 1) := by decide +kernel
theorem dX12_dayEnds_77 : decode cX12_dayEnds 77 = .ok (.sipush 227, 3) := by decide +kernel
theorem dX12_dayEnds_80 : decode cX12_dayEnds 80 = .ok (.iload_n 2, 1) := by decide +kernel
theorem dX12_dayEnds_81 : decode cX12_dayEnds 81 = .ok (.iload_n 3, 1) := by decide +kernel
theorem dX12_dayEnds_82 : decode cX12_dayEnds 82 = .ok (.invokestatic 301, 3) := by decide +kernel
theorem dX12_dayEnds_85 : decode cX12_dayEnds 85 = .ok (.iadd, 1) := by decide +kernel
theorem dX12_dayEnds_86 : decode cX12_dayEnds 86 = .ok (.aload_n 1, 1) := by decide +kernel
theorem dX12_dayEnds_87 : decode cX12_dayEnds 87 = .ok (.sipush 227, 3) := by decide +kernel
theorem dX12_dayEnds_90 : decode cX12_dayEnds 90 = .ok (.iload_n 2, 1) := by decide +kernel
theorem dX12_dayEnds_91 : decode cX12_dayEnds 91 = .ok (.iload_n 3, 1) := by decide +kernel
theorem dX12_dayEnds_92 : decode cX12_dayEnds 92 = .ok (.iconst 1, 1) := by decide +kernel
theorem dX12_dayEnds_93 : decode cX12_dayEnds 93 = .ok (.iadd, 1) := by decide +kernel
theorem dX12_dayEnds_94 : decode cX12_dayEnds 94 = .ok (.invokestatic 301, 3) := by decide +kernel
theorem dX12_dayEnds_97 : decode cX12_dayEnds 97 = .ok (.iadd, 1) := by decide +kernel
theorem dX12_dayEnds_98 : decode cX12_dayEnds 98 = .ok (.iaload, 1) := by decide +kernel
theorem dX12_dayEnds_99 : decode cX12_dayEnds 99 = .ok (.iastore, 1) := by decide +kernel
theorem dX12_dayEnds_100 : decode cX12_dayEnds 100 = .ok (.iinc 3 1, 3) := by decide +kernel
theorem dX12_dayEnds_103 : decode cX12_dayEnds 103 = .ok (.goto (-59), 3) := by decide +kernel
theorem dX12_dayEnds_106 : decode cX12_dayEnds 106 = .ok (.aload_n 1, 1) := by decide +kernel
theorem dX12_dayEnds_107 : decode cX12_dayEnds 107 = .ok (.iload_n 2, 1) := by decide +kernel
theorem dX12_dayEnds_108 : decode cX12_dayEnds 108 = .ok (.aload_n 1, 1) := by decide +kernel
theorem dX12_dayEnds_109 : decode cX12_dayEnds 109 = .ok (.bipush 24, 2) := by decide +kernel
theorem dX12_dayEnds_111 : decode cX12_dayEnds 111 = .ok (.iload_n 2, 1) := by decide +kernel
theorem dX12_dayEnds_112 : decode cX12_dayEnds 112 = .ok (.iadd, 1) := by decide +kernel
theorem dX12_dayEnds_113 : decode cX12_dayEnds 113 = .ok (.iaload, 1) := by decide +kernel
theorem dX12_dayEnds_114 : decode cX12_dayEnds 114 = .ok (.invokestatic 317, 3) := by decide +kernel
theorem dX12_dayEnds_117 : decode cX12_dayEnds 117 = .ok (.iinc 2 1, 3) := by decide +kernel
theorem dX12_dayEnds_120 : decode cX12_dayEnds 120 = .ok (.goto (-110), 3) := by decide +kernel
theorem dX12_dayEnds_123 : decode cX12_dayEnds 123 = .ok (.return_, 1) := by decide +kernel
theorem dX12_laysSheet_0 : decode cX12_laysSheet 0 = .ok (.iload_n 2, 1) := by decide +kernel
theorem dX12_laysSheet_1 : decode cX12_laysSheet 1 = .ok (.ifCond .ge 5, 3) := by decide +kernel
theorem dX12_laysSheet_4 : decode cX12_laysSheet 4 = .ok (.iconst 0, 1) := by decide +kernel
theorem dX12_laysSheet_5 : decode cX12_laysSheet 5 = .ok (.ireturn, 1) := by decide +kernel
theorem dX12_laysSheet_6 : decode cX12_laysSheet 6 = .ok (.aload_n 0, 1) := by decide +kernel
theorem dX12_laysSheet_7 : decode cX12_laysSheet 7 = .ok (.bipush 16, 2) := by decide +kernel
theorem dX12_laysSheet_9 : decode cX12_laysSheet 9 = .ok (.iload_n 1, 1) := by decide +kernel
theorem dX12_laysSheet_10 : decode cX12_laysSheet 10 = .ok (.iadd, 1) := by decide +kernel
theorem dX12_laysSheet_11 : decode cX12_laysSheet 11 = .ok (.iload_n 2, 1) := by decide +kernel
theorem dX12_laysSheet_12 : decode cX12_laysSheet 12 = .ok (.iastore, 1) := by decide +kernel
theorem dX12_laysSheet_13 : decode cX12_laysSheet 13 = .ok (.aload_n 0, 1) := by decide +kernel
theorem dX12_laysSheet_14 : decode cX12_laysSheet 14 = .ok (.bipush 24, 2) := by decide +kernel
theorem dX12_laysSheet_16 : decode cX12_laysSheet 16 = .ok (.iload_n 1, 1) := by decide +kernel
theorem dX12_laysSheet_17 : decode cX12_laysSheet 17 = .ok (.iadd, 1) := by decide +kernel
theorem dX12_laysSheet_18 : decode cX12_laysSheet 18 = .ok (.iconst 0, 1) := by decide +kernel
theorem dX12_laysSheet_19 : decode cX12_laysSheet 19 = .ok (.iastore, 1) := by decide +kernel
theorem dX12_laysSheet_20 : decode cX12_laysSheet 20 = .ok (.aload_n 0, 1) := by decide +kernel
theorem dX12_laysSheet_21 : decode cX12_laysSheet 21 = .ok (.iload_n 1, 1) := by decide +kernel
theorem dX12_laysSheet_22 : decode cX12_laysSheet 22 = .ok (.iconst 0, 1) := by decide +kernel
theorem dX12_laysSheet_23 : decode cX12_laysSheet 23 = .ok (.invokestatic 317, 3) := by decide +kernel
theorem dX12_laysSheet_26 : decode cX12_laysSheet 26 = .ok (.iconst 1, 1) := by decide +kernel
theorem dX12_laysSheet_27 : decode cX12_laysSheet 27 = .ok (.ireturn, 1) := by decide +kernel
theorem dX12_does_0 : decode cX12_does 0 = .ok (.aload_n 2, 1) := by decide +kernel
theorem dX12_does_1 : decode cX12_does 1 = .ok (.iconst 1, 1) := by decide +kernel
theorem dX12_does_2 : decode cX12_does 2 = .ok (.iaload, 1) := by decide +kernel
theorem dX12_does_3 : decode cX12_does 3 = .ok (.istore_n 3, 1) := by decide +kernel
theorem dX12_does_4 : decode cX12_does 4 = .ok (.aload_n 2, 1) := by decide +kernel
theorem dX12_does_5 : decode cX12_does 5 = .ok (.iconst 0, 1) := by decide +kernel
theorem dX12_does_6 : decode cX12_does 6 = .ok (.iaload, 1) := by decide +kernel
theorem dX12_does_7 : decode cX12_does 7 = .ok (.tableswitch 200 0 7 #[45, 55, 66, 73, 102, 130, 143, 156], 45) := by decide +kernel
theorem dX12_does_52 : decode cX12_does 52 = .ok (.aload_n 0, 1) := by decide +kernel
theorem dX12_does_53 : decode cX12_does 53 = .ok (.aload_n 1, 1) := by decide +kernel
theorem dX12_does_54 : decode cX12_does 54 = .ok (.iload_n 3, 1) := by decide +kernel
theorem dX12_does_55 : decode cX12_does 55 = .ok (.aload_n 2, 1) := by decide +kernel
theorem dX12_does_56 : decode cX12_does 56 = .ok (.iconst 2, 1) := by decide +kernel
theorem dX12_does_57 : decode cX12_does 57 = .ok (.iaload, 1) := by decide +kernel
theorem dX12_does_58 : decode cX12_does 58 = .ok (.invokevirtual 313, 3) := by decide +kernel
theorem dX12_does_61 : decode cX12_does 61 = .ok (.ireturn, 1) := by decide +kernel
theorem dX12_does_62 : decode cX12_does 62 = .ok (.aload_n 0, 1) := by decide +kernel
theorem dX12_does_63 : decode cX12_does 63 = .ok (.aload_n 1, 1) := by decide +kernel
theorem dX12_does_64 : decode cX12_does 64 = .ok (.iload_n 3, 1) := by decide +kernel
theorem dX12_does_65 : decode cX12_does 65 = .ok (.aload_n 2, 1) := by decide +kernel
theorem dX12_does_66 : decode cX12_does 66 = .ok (.iconst 2, 1) := by decide +kernel
theorem dX12_does_67 : decode cX12_does 67 = .ok (.iaload, 1) := by decide +kernel
theorem dX12_does_68 : decode cX12_does 68 = .ok (.ineg, 1) := by decide +kernel
theorem dX12_does_69 : decode cX12_does 69 = .ok (.invokevirtual 313, 3) := by decide +kernel
theorem dX12_does_72 : decode cX12_does 72 = .ok (.ireturn, 1) := by decide +kernel
theorem dX12_does_73 : decode cX12_does 73 = .ok (.aload_n 0, 1) := by decide +kernel
theorem dX12_does_74 : decode cX12_does 74 = .ok (.aload_n 1, 1) := by decide +kernel
theorem dX12_does_75 : decode cX12_does 75 = .ok (.iload_n 3, 1) := by decide +kernel
theorem dX12_does_76 : decode cX12_does 76 = .ok (.invokevirtual 321, 3) := by decide +kernel
theorem dX12_does_79 : decode cX12_does 79 = .ok (.ireturn, 1) := by decide +kernel
theorem dX12_does_80 : decode cX12_does 80 = .ok (.aload_n 1, 1) := by decide +kernel
theorem dX12_does_81 : decode cX12_does 81 = .ok (.bipush 24, 2) := by decide +kernel
theorem dX12_does_83 : decode cX12_does 83 = .ok (.iload_n 3, 1) := by decide +kernel
theorem dX12_does_84 : decode cX12_does 84 = .ok (.iadd, 1) := by decide +kernel
theorem dX12_does_85 : decode cX12_does 85 = .ok (.iaload, 1) := by decide +kernel
theorem dX12_does_86 : decode cX12_does 86 = .ok (.ifCond .le 21, 3) := by decide +kernel
theorem dX12_does_89 : decode cX12_does 89 = .ok (.aload_n 1, 1) := by decide +kernel
theorem dX12_does_90 : decode cX12_does 90 = .ok (.iload_n 3, 1) := by decide +kernel
theorem dX12_does_91 : decode cX12_does 91 = .ok (.aload_n 1, 1) := by decide +kernel
theorem dX12_does_92 : decode cX12_does 92 = .ok (.bipush 16, 2) := by decide +kernel
theorem dX12_does_94 : decode cX12_does 94 = .ok (.iload_n 3, 1) := by decide +kernel
theorem dX12_does_95 : decode cX12_does 95 = .ok (.iadd, 1) := by decide +kernel
theorem dX12_does_96 : decode cX12_does 96 = .ok (.iaload, 1) := by decide +kernel
theorem dX12_does_97 : decode cX12_does 97 = .ok (.invokestatic 324, 3) := by decide +kernel
theorem dX12_does_100 : decode cX12_does 100 = .ok (.ifCond .eq 7, 3) := by decide +kernel
theorem dX12_does_103 : decode cX12_does 103 = .ok (.iconst 1, 1) := by decide +kernel
theorem dX12_does_104 : decode cX12_does 104 = .ok (.goto 4, 3) := by decide +kernel
theorem dX12_does_107 : decode cX12_does 107 = .ok (.iconst 0, 1) := by decide +kernel
theorem dX12_does_108 : decode cX12_does 108 = .ok (.ireturn, 1) := by decide +kernel
theorem dX12_does_109 : decode cX12_does 109 = .ok (.aload_n 1, 1) := by decide +kernel
theorem dX12_does_110 : decode cX12_does 110 = .ok (.bipush 16, 2) := by decide +kernel
theorem dX12_does_112 : decode cX12_does 112 = .ok (.iload_n 3, 1) := by decide +kernel
theorem dX12_does_113 : decode cX12_does 113 = .ok (.iadd, 1) := by decide +kernel
theorem dX12_does_114 : decode cX12_does 114 = .ok (.iaload, 1) := by decide +kernel
theorem dX12_does_115 : decode cX12_does 115 = .ok (.iconst (-1), 1) := by decide +kernel
theorem dX12_does_116 : decode cX12_does 116 = .ok (.if_icmp .ne 5, 3) := by decide +kernel
theorem dX12_does_119 : decode cX12_does 119 = .ok (.iconst 0, 1) := by decide +kernel
theorem dX12_does_120 : decode cX12_does 120 = .ok (.ireturn, 1) := by decide +kernel
theorem dX12_does_121 : decode cX12_does 121 = .ok (.aload_n 1, 1) := by decide +kernel
theorem dX12_does_122 : decode cX12_does 122 = .ok (.iload_n 3, 1) := by decide +kernel
theorem dX12_does_123 : decode cX12_does 123 = .ok (.iconst 0, 1) := by decide +kernel
theorem dX12_does_124 : decode cX12_does 124 = .ok (.invokestatic 324, 3) := by decide +kernel
theorem dX12_does_127 : decode cX12_does 127 = .ok (.pop, 1) := by decide +kernel
theorem dX12_does_128 : decode cX12_does 128 = .ok (.aload_n 1, 1) := by decide +kernel
theorem dX12_does_129 : decode cX12_does 129 = .ok (.bipush 16, 2) := by decide +kernel
theorem dX12_does_131 : decode cX12_does 131 = .ok (.iload_n 3, 1) := by decide +kernel
theorem dX12_does_132 : decode cX12_does 132 = .ok (.iadd, 1) := by decide +kernel
theorem dX12_does_133 : decode cX12_does 133 = .ok (.iconst (-1), 1) := by decide +kernel
theorem dX12_does_134 : decode cX12_does 134 = .ok (.iastore, 1) := by decide +kernel
theorem dX12_does_135 : decode cX12_does 135 = .ok (.iconst 1, 1) := by decide +kernel
theorem dX12_does_136 : decode cX12_does 136 = .ok (.ireturn, 1) := by decide +kernel
theorem dX12_does_137 : decode cX12_does 137 = .ok (.aload_n 1, 1) := by decide +kernel
theorem dX12_does_138 : decode cX12_does 138 = .ok (.iload_n 3, 1) := by decide +kernel
theorem dX12_does_139 : decode cX12_does 139 = .ok (.aload_n 2, 1) := by decide +kernel
theorem dX12_does_140 : decode cX12_does 140 = .ok (.iconst 2, 1) := by decide +kernel
theorem dX12_does_141 : decode cX12_does 141 = .ok (.iaload, 1) := by decide +kernel
theorem dX12_does_142 : decode cX12_does 142 = .ok (.aload_n 2, 1) := by decide +kernel
theorem dX12_does_143 : decode cX12_does 143 = .ok (.iconst 3, 1) := by decide +kernel
theorem dX12_does_144 : decode cX12_does 144 = .ok (.iaload, 1) := by decide +kernel
theorem dX12_does_145 : decode cX12_does 145 = .ok (.isub, 1) := by decide +kernel
theorem dX12_does_146 : decode cX12_does 146 = .ok (.invokestatic 324, 3) := by decide +kernel
theorem dX12_does_149 : decode cX12_does 149 = .ok (.ireturn, 1) := by decide +kernel
theorem dX12_does_150 : decode cX12_does 150 = .ok (.aload_n 0, 1) := by decide +kernel
theorem dX12_does_151 : decode cX12_does 151 = .ok (.aload_n 1, 1) := by decide +kernel
theorem dX12_does_152 : decode cX12_does 152 = .ok (.iload_n 3, 1) := by decide +kernel
theorem dX12_does_153 : decode cX12_does 153 = .ok (.aload_n 2, 1) := by decide +kernel
theorem dX12_does_154 : decode cX12_does 154 = .ok (.iconst 2, 1) := by decide +kernel
theorem dX12_does_155 : decode cX12_does 155 = .ok (.iaload, 1) := by decide +kernel
theorem dX12_does_156 : decode cX12_does 156 = .ok (.aload_n 2, 1) := by decide +kernel
theorem dX12_does_157 : decode cX12_does 157 = .ok (.iconst 3, 1) := by decide +kernel
theorem dX12_does_158 : decode cX12_does 158 = .ok (.iaload, 1) := by decide +kernel
theorem dX12_does_159 : decode cX12_does 159 = .ok (.invokevirtual 327, 3) := by decide +kernel
theorem dX12_does_162 : decode cX12_does 162 = .ok (.ireturn, 1) := by decide +kernel
theorem dX12_does_163 : decode cX12_does 163 = .ok (.aload_n 1, 1) := by decide +kernel
theorem dX12_does_164 : decode cX12_does 164 = .ok (.iconst 0, 1) := by decide +kernel
theorem dX12_does_165 : decode cX12_does 165 = .ok (.iload_n 3, 1) := by decide +kernel
theorem dX12_does_166 : decode cX12_does 166 = .ok (.iadd, 1) := by decide +kernel
theorem dX12_does_167 : decode cX12_does 167 = .ok (.iaload, 1) := by decide +kernel
theorem dX12_does_168 : decode cX12_does 168 = .ok (.aload_n 2, 1) := by decide +kernel
theorem dX12_does_169 : decode cX12_does 169 = .ok (.iconst 2, 1) := by decide +kernel
theorem dX12_does_170 : decode cX12_does 170 = .ok (.iaload, 1) := by decide +kernel
theorem dX12_does_171 : decode cX12_does 171 = .ok (.if_icmp .ne 17, 3) := by decide +kernel
theorem dX12_does_174 : decode cX12_does 174 = .ok (.aload_n 1, 1) := by decide +kernel
theorem dX12_does_175 : decode cX12_does 175 = .ok (.bipush 8, 2) := by decide +kernel
theorem dX12_does_177 : decode cX12_does 177 = .ok (.iload_n 3, 1) := by decide +kernel
theorem dX12_does_178 : decode cX12_does 178 = .ok (.iadd, 1) := by decide +kernel
theorem dX12_does_179 : decode cX12_does 179 = .ok (.iaload, 1) := by decide +kernel
theorem dX12_does_180 : decode cX12_does 180 = .ok (.aload_n 2, 1) := by decide +kernel
theorem dX12_does_181 : decode cX12_does 181 = .ok (.iconst 3, 1) := by decide +kernel
theorem dX12_does_182 : decode cX12_does 182 = .ok (.iaload, 1) := by decide +kernel
theorem dX12_does_183 : decode cX12_does 183 = .ok (.if_icmp .ne 5, 3) := by decide +kernel
theorem dX12_does_186 : decode cX12_does 186 = .ok (.iconst 0, 1) := by decide +kernel
theorem dX12_does_187 : decode cX12_does 187 = .ok (.ireturn, 1) := by decide +kernel
theorem dX12_does_188 : decode cX12_does 188 = .ok (.aload_n 1, 1) := by decide +kernel
theorem dX12_does_189 : decode cX12_does 189 = .ok (.iconst 0, 1) := by decide +kernel
theorem dX12_does_190 : decode cX12_does 190 = .ok (.iload_n 3, 1) := by decide +kernel
theorem dX12_does_191 : decode cX12_does 191 = .ok (.iadd, 1) := by decide +kernel
theorem dX12_does_192 : decode cX12_does 192 = .ok (.aload_n 2, 1) := by decide +kernel
theorem dX12_does_193 : decode cX12_does 193 = .ok (.iconst 2, 1) := by decide +kernel
theorem dX12_does_194 : decode cX12_does 194 = .ok (.iaload, 1) := by decide +kernel
theorem dX12_does_195 : decode cX12_does 195 = .ok (.iastore, 1) := by decide +kernel
theorem dX12_does_196 : decode cX12_does 196 = .ok (.aload_n 1, 1) := by decide +kernel
theorem dX12_does_197 : decode cX12_does 197 = .ok (.bipush 8, 2) := by decide +kernel
theorem dX12_does_199 : decode cX12_does 199 = .ok (.iload_n 3, 1) := by decide +kernel
theorem dX12_does_200 : decode cX12_does 200 = .ok (.iadd, 1) := by decide +kernel
theorem dX12_does_201 : decode cX12_does 201 = .ok (.aload_n 2, 1) := by decide +kernel
theorem dX12_does_202 : decode cX12_does 202 = .ok (.iconst 3, 1) := by decide +kernel
theorem dX12_does_203 : decode cX12_does 203 = .ok (.iaload, 1) := by decide +kernel
theorem dX12_does_204 : decode cX12_does 204 = .ok (.iastore, 1) := by decide +kernel
theorem dX12_does_205 : decode cX12_does 205 = .ok (.iconst 1, 1) := by decide +kernel
theorem dX12_does_206 : decode cX12_does 206 = .ok (.ireturn, 1) := by decide +kernel
theorem dX12_does_207 : decode cX12_does 207 = .ok (.aload_n 1, 1) := by decide +kernel
theorem dX12_does_208 : decode cX12_does 208 = .ok (.bipush 32, 2) := by decide +kernel
theorem dX12_does_210 : decode cX12_does 210 = .ok (.iaload, 1) := by decide +kernel
theorem dX12_does_211 : decode cX12_does 211 = .ok (.sipush 900, 3) := by decide +kernel
theorem dX12_does_214 : decode cX12_does 214 = .ok (.if_icmp .lt 5, 3) := by decide +kernel
theorem dX12_does_217 : decode cX12_does 217 = .ok (.iconst 0, 1) := by decide +kernel
theorem dX12_does_218 : decode cX12_does 218 = .ok (.ireturn, 1) := by decide +kernel
theorem dX12_does_219 : decode cX12_does 219 = .ok (.aload_n 0, 1) := by decide +kernel
theorem dX12_does_220 : decode cX12_does 220 = .ok (.aload_n 1, 1) := by decide +kernel
theorem dX12_does_221 : decode cX12_does 221 = .ok (.invokevirtual 331, 3) := by decide +kernel
theorem dX12_does_224 : decode cX12_does 224 = .ok (.iconst 1, 1) := by decide +kernel
theorem dX12_does_225 : decode cX12_does 225 = .ok (.ireturn, 1) := by decide +kernel
theorem dX12_goes_0 : decode cX12_goes 0 = .ok (.iload_n 1, 1) := by decide +kernel
theorem dX12_goes_1 : decode cX12_goes 1 = .ok (.istore_n 3, 1) := by decide +kernel
theorem dX12_goes_2 : decode cX12_goes 2 = .ok (.iload_n 3, 1) := by decide +kernel
theorem dX12_goes_3 : decode cX12_goes 3 = .ok (.iload_n 2, 1) := by decide +kernel
theorem dX12_goes_4 : decode cX12_goes 4 = .ok (.if_icmp .ge 152, 3) := by decide +kernel
theorem dX12_goes_7 : decode cX12_goes 7 = .ok (.aload_n 0, 1) := by decide +kernel
theorem dX12_goes_8 : decode cX12_goes 8 = .ok (.getfield 334, 3) := by decide +kernel
theorem dX12_goes_11 : decode cX12_goes 11 = .ok (.sipush 200, 3) := by decide +kernel
theorem dX12_goes_14 : decode cX12_goes 14 = .ok (.if_icmp .ge 142, 3) := by decide +kernel
theorem dX12_goes_17 : decode cX12_goes 17 = .ok (.aload_n 0, 1) := by decide +kernel
theorem dX12_goes_18 : decode cX12_goes 18 = .ok (.dup, 1) := by decide +kernel
theorem dX12_goes_19 : decode cX12_goes 19 = .ok (.getfield 334, 3) := by decide +kernel
theorem dX12_goes_22 : decode cX12_goes 22 = .ok (.iconst 1, 1) := by decide +kernel
theorem dX12_goes_23 : decode cX12_goes 23 = .ok (.iadd, 1) := by decide +kernel
theorem dX12_goes_24 : decode cX12_goes 24 = .ok (.putfield 334, 3) := by decide +kernel
theorem dX12_goes_27 : decode cX12_goes 27 = .ok (.aload_n 0, 1) := by decide +kernel
theorem dX12_goes_28 : decode cX12_goes 28 = .ok (.getfield 64, 3) := by decide +kernel
theorem dX12_goes_31 : decode cX12_goes 31 = .ok (.iload_n 3, 1) := by decide +kernel
theorem dX12_goes_32 : decode cX12_goes 32 = .ok (.aaload, 1) := by decide +kernel
theorem dX12_goes_33 : decode cX12_goes 33 = .ok (.iconst 0, 1) := by decide +kernel
theorem dX12_goes_34 : decode cX12_goes 34 = .ok (.iaload, 1) := by decide +kernel
theorem dX12_goes_35 : decode cX12_goes 35 = .ok (.bipush 9, 2) := by decide +kernel
theorem dX12_goes_37 : decode cX12_goes 37 = .ok (.if_icmp .ne 53, 3) := by decide +kernel
theorem dX12_goes_40 : decode cX12_goes 40 = .ok (.iconst 0, 1) := by decide +kernel
theorem dX12_goes_41 : decode cX12_goes 41 = .ok (.istore 4, 2) := by decide +kernel
theorem dX12_goes_43 : decode cX12_goes 43 = .ok (.iload 4, 2) := by decide +kernel
theorem dX12_goes_45 : decode cX12_goes 45 = .ok (.aload_n 0, 1) := by decide +kernel
theorem dX12_goes_46 : decode cX12_goes 46 = .ok (.getfield 64, 3) := by decide +kernel
theorem dX12_goes_49 : decode cX12_goes 49 = .ok (.iload_n 3, 1) := by decide +kernel
theorem dX12_goes_50 : decode cX12_goes 50 = .ok (.aaload, 1) := by decide +kernel
theorem dX12_goes_51 : decode cX12_goes 51 = .ok (.iconst 1, 1) := by decide +kernel
theorem dX12_goes_52 : decode cX12_goes 52 = .ok (.iaload, 1) := by decide +kernel
theorem dX12_goes_53 : decode cX12_goes 53 = .ok (.if_icmp .ge 34, 3) := by decide +kernel
theorem dX12_goes_56 : decode cX12_goes 56 = .ok (.aload_n 0, 1) := by decide +kernel
theorem dX12_goes_57 : decode cX12_goes 57 = .ok (.getfield 334, 3) := by decide +kernel
theorem dX12_goes_60 : decode cX12_goes 60 = .ok (.sipush 200, 3) := by decide +kernel
theorem dX12_goes_63 : decode cX12_goes 63 = .ok (.if_icmp .ge 24, 3) := by decide +kernel
theorem dX12_goes_66 : decode cX12_goes 66 = .ok (.aload_n 0, 1) := by decide +kernel
theorem dX12_goes_67 : decode cX12_goes 67 = .ok (.iload_n 3, 1) := by decide +kernel
theorem dX12_goes_68 : decode cX12_goes 68 = .ok (.iconst 1, 1) := by decide +kernel
theorem dX12_goes_69 : decode cX12_goes 69 = .ok (.iadd, 1) := by decide +kernel
theorem dX12_goes_70 : decode cX12_goes 70 = .ok (.aload_n 0, 1) := by decide +kernel
theorem dX12_goes_71 : decode cX12_goes 71 = .ok (.getfield 64, 3) := by decide +kernel
theorem dX12_goes_74 : decode cX12_goes 74 = .ok (.iload_n 3, 1) := by decide +kernel
theorem dX12_goes_75 : decode cX12_goes 75 = .ok (.aaload, 1) := by decide +kernel
theorem dX12_goes_76 : decode cX12_goes 76 = .ok (.iconst 4, 1) := by decide +kernel
theorem dX12_goes_77 : decode cX12_goes 77 = .ok (.iaload, 1) := by decide +kernel
theorem dX12_goes_78 : decode cX12_goes 78 = .ok (.invokevirtual 337, 3) := by decide +kernel
theorem dX12_goes_81 : decode cX12_goes 81 = .ok (.iinc 4 1, 3) := by decide +kernel
theorem dX12_goes_84 : decode cX12_goes 84 = .ok (.goto (-41), 3) := by decide +kernel
theorem dX12_goes_87 : decode cX12_goes 87 = .ok (.goto 57, 3) := by decide +kernel
theorem dX12_goes_90 : decode cX12_goes 90 = .ok (.aload_n 0, 1) := by decide +kernel
theorem dX12_goes_91 : decode cX12_goes 91 = .ok (.aload_n 0, 1) := by decide +kernel
theorem dX12_goes_92 : decode cX12_goes 92 = .ok (.getfield 67, 3) := by decide +kernel
theorem dX12_goes_95 : decode cX12_goes 95 = .ok (.aload_n 0, 1) := by decide +kernel
theorem dX12_goes_96 : decode cX12_goes 96 = .ok (.getfield 64, 3) := by decide +kernel
theorem dX12_goes_99 : decode cX12_goes 99 = .ok (.iload_n 3, 1) := by decide +kernel
theorem dX12_goes_100 : decode cX12_goes 100 = .ok (.aaload, 1) := by decide +kernel
theorem dX12_goes_101 : decode cX12_goes 101 = .ok (.invokevirtual 340, 3) := by decide +kernel
theorem dX12_goes_104 : decode cX12_goes 104 = .ok (.istore 4, 2) := by decide +kernel
theorem dX12_goes_106 : decode cX12_goes 106 = .ok (.aload_n 0, 1) := by decide +kernel
theorem dX12_goes_107 : decode cX12_goes 107 = .ok (.dup, 1) := by decide +kernel
theorem dX12_goes_108 : decode cX12_goes 108 = .ok (.getfield 344, 3) := by decide +kernel
theorem dX12_goes_111 : decode cX12_goes 111 = .ok (.iload 4, 2) := by decide +kernel
theorem dX12_goes_113 : decode cX12_goes 113 = .ok (.ifCond .eq 7, 3) := by decide +kernel
theorem dX12_goes_116 : decode cX12_goes 116 = .ok (.iconst 1, 1) := by decide +kernel
theorem dX12_goes_117 : decode cX12_goes 117 = .ok (.goto 4, 3) := by decide +kernel
theorem dX12_goes_120 : decode cX12_goes 120 = .ok (.iconst 0, 1) := by decide +kernel
theorem dX12_goes_121 : decode cX12_goes 121 = .ok (.iadd, 1) := by decide +kernel
theorem dX12_goes_122 : decode cX12_goes 122 = .ok (.putfield 344, 3) := by decide +kernel
theorem dX12_goes_125 : decode cX12_goes 125 = .ok (.aload_n 0, 1) := by decide +kernel
theorem dX12_goes_126 : decode cX12_goes 126 = .ok (.dup, 1) := by decide +kernel
theorem dX12_goes_127 : decode cX12_goes 127 = .ok (.getfield 196, 3) := by decide +kernel
theorem dX12_goes_130 : decode cX12_goes 130 = .ok (.iload 4, 2) := by decide +kernel
theorem dX12_goes_132 : decode cX12_goes 132 = .ok (.ifCond .eq 7, 3) := by decide +kernel
theorem dX12_goes_135 : decode cX12_goes 135 = .ok (.iconst 0, 1) := by decide +kernel
theorem dX12_goes_136 : decode cX12_goes 136 = .ok (.goto 4, 3) := by decide +kernel
theorem dX12_goes_139 : decode cX12_goes 139 = .ok (.iconst 1, 1) := by decide +kernel
theorem dX12_goes_140 : decode cX12_goes 140 = .ok (.iadd, 1) := by decide +kernel
theorem dX12_goes_141 : decode cX12_goes 141 = .ok (.putfield 196, 3) := by decide +kernel
theorem dX12_goes_144 : decode cX12_goes 144 = .ok (.aload_n 0, 1) := by decide +kernel
theorem dX12_goes_145 : decode cX12_goes 145 = .ok (.getfield 64, 3) := by decide +kernel
theorem dX12_goes_148 : decode cX12_goes 148 = .ok (.iload_n 3, 1) := by decide +kernel
theorem dX12_goes_149 : decode cX12_goes 149 = .ok (.aaload, 1) := by decide +kernel
theorem dX12_goes_150 : decode cX12_goes 150 = .ok (.iconst 4, 1) := by decide +kernel
theorem dX12_goes_151 : decode cX12_goes 151 = .ok (.iaload, 1) := by decide +kernel
theorem dX12_goes_152 : decode cX12_goes 152 = .ok (.istore_n 3, 1) := by decide +kernel
theorem dX12_goes_153 : decode cX12_goes 153 = .ok (.goto (-151), 3) := by decide +kernel
theorem dX12_goes_156 : decode cX12_goes 156 = .ok (.return_, 1) := by decide +kernel
theorem dX12_work_0 : decode cX12_work 0 = .ok (.aload_n 0, 1) := by decide +kernel
theorem dX12_work_1 : decode cX12_work 1 = .ok (.iconst 0, 1) := by decide +kernel
theorem dX12_work_2 : decode cX12_work 2 = .ok (.putfield 94, 3) := by decide +kernel
theorem dX12_work_5 : decode cX12_work 5 = .ok (.aload_n 0, 1) := by decide +kernel
theorem dX12_work_6 : decode cX12_work 6 = .ok (.iload_n 1, 1) := by decide +kernel
theorem dX12_work_7 : decode cX12_work 7 = .ok (.iconst 0, 1) := by decide +kernel
theorem dX12_work_8 : decode cX12_work 8 = .ok (.aload_n 0, 1) := by decide +kernel
theorem dX12_work_9 : decode cX12_work 9 = .ok (.getfield 97, 3) := by decide +kernel
theorem dX12_work_12 : decode cX12_work 12 = .ok (.invokestatic 128, 3) := by decide +kernel
theorem dX12_work_15 : decode cX12_work 15 = .ok (.ifCond .eq 10, 3) := by decide +kernel
theorem dX12_work_18 : decode cX12_work 18 = .ok (.iload_n 1, 1) := by decide +kernel
theorem dX12_work_19 : decode cX12_work 19 = .ok (.sipush 150, 3) := by decide +kernel
theorem dX12_work_22 : decode cX12_work 22 = .ok (.if_icmp .le 7, 3) := by decide +kernel
theorem dX12_work_25 : decode cX12_work 25 = .ok (.iconst 1, 1) := by decide +kernel
theorem dX12_work_26 : decode cX12_work 26 = .ok (.goto 4, 3) := by decide +kernel
theorem dX12_work_29 : decode cX12_work 29 = .ok (.iconst 0, 1) := by decide +kernel
theorem dX12_work_30 : decode cX12_work 30 = .ok (.iconst 1, 1) := by decide +kernel
theorem dX12_work_31 : decode cX12_work 31 = .ok (.iconst 1, 1) := by decide +kernel
theorem dX12_work_32 : decode cX12_work 32 = .ok (.invokevirtual 167, 3) := by decide +kernel
theorem dX12_work_35 : decode cX12_work 35 = .ok (.ifCond .eq 5, 3) := by decide +kernel
theorem dX12_work_38 : decode cX12_work 38 = .ok (.iconst 0, 1) := by decide +kernel
theorem dX12_work_39 : decode cX12_work 39 = .ok (.ireturn, 1) := by decide +kernel
theorem dX12_work_40 : decode cX12_work 40 = .ok (.aload_n 0, 1) := by decide +kernel
theorem dX12_work_41 : decode cX12_work 41 = .ok (.getfield 193, 3) := by decide +kernel
theorem dX12_work_44 : decode cX12_work 44 = .ok (.bipush 16, 2) := by decide +kernel
theorem dX12_work_46 : decode cX12_work 46 = .ok (.if_icmp .ne 16, 3) := by decide +kernel
theorem dX12_work_49 : decode cX12_work 49 = .ok (.aload_n 0, 1) := by decide +kernel
theorem dX12_work_50 : decode cX12_work 50 = .ok (.iconst 0, 1) := by decide +kernel
theorem dX12_work_51 : decode cX12_work 51 = .ok (.putfield 97, 3) := by decide +kernel
theorem dX12_work_54 : decode cX12_work 54 = .ok (.aload_n 0, 1) := by decide +kernel
theorem dX12_work_55 : decode cX12_work 55 = .ok (.iconst (-1), 1) := by decide +kernel
theorem dX12_work_56 : decode cX12_work 56 = .ok (.putfield 9, 3) := by decide +kernel
theorem dX12_work_59 : decode cX12_work 59 = .ok (.bipush (-20), 2) := by decide +kernel
theorem dX12_work_61 : decode cX12_work 61 = .ok (.ireturn, 1) := by decide +kernel
theorem dX12_work_62 : decode cX12_work 62 = .ok (.aload_n 0, 1) := by decide +kernel
theorem dX12_work_63 : decode cX12_work 63 = .ok (.iload_n 1, 1) := by decide +kernel
theorem dX12_work_64 : decode cX12_work 64 = .ok (.invokevirtual 171, 3) := by decide +kernel
theorem dX12_work_67 : decode cX12_work 67 = .ok (.aload_n 0, 1) := by decide +kernel
theorem dX12_work_68 : decode cX12_work 68 = .ok (.iconst 0, 1) := by decide +kernel
theorem dX12_work_69 : decode cX12_work 69 = .ok (.putfield 251, 3) := by decide +kernel
theorem dX12_work_72 : decode cX12_work 72 = .ok (.aload_n 0, 1) := by decide +kernel
theorem dX12_work_73 : decode cX12_work 73 = .ok (.getfield 110, 3) := by decide +kernel
theorem dX12_work_76 : decode cX12_work 76 = .ok (.ifCond .ne 25, 3) := by decide +kernel
theorem dX12_work_79 : decode cX12_work 79 = .ok (.aload_n 0, 1) := by decide +kernel
theorem dX12_work_80 : decode cX12_work 80 = .ok (.getfield 103, 3) := by decide +kernel
theorem dX12_work_83 : decode cX12_work 83 = .ok (.aload_n 0, 1) := by decide +kernel
theorem dX12_work_84 : decode cX12_work 84 = .ok (.getfield 100, 3) := by decide +kernel
theorem dX12_work_87 : decode cX12_work 87 = .ok (.if_icmp .ge 14, 3) := by decide +kernel
theorem dX12_work_90 : decode cX12_work 90 = .ok (.aload_n 0, 1) := by decide +kernel
theorem dX12_work_91 : decode cX12_work 91 = .ok (.invokevirtual 258, 3) := by decide +kernel
theorem dX12_work_94 : decode cX12_work 94 = .ok (.aload_n 0, 1) := by decide +kernel
theorem dX12_work_95 : decode cX12_work 95 = .ok (.invokevirtual 116, 3) := by decide +kernel
theorem dX12_work_98 : decode cX12_work 98 = .ok (.goto (-26), 3) := by decide +kernel
theorem dX12_work_101 : decode cX12_work 101 = .ok (.aload_n 0, 1) := by decide +kernel
theorem dX12_work_102 : decode cX12_work 102 = .ok (.getfield 110, 3) := by decide +kernel
theorem dX12_work_105 : decode cX12_work 105 = .ok (.ifCond .eq 8, 3) := by decide +kernel
theorem dX12_work_108 : decode cX12_work 108 = .ok (.aload_n 0, 1) := by decide +kernel
theorem dX12_work_109 : decode cX12_work 109 = .ok (.invokevirtual 177, 3) := by decide +kernel
theorem dX12_work_112 : decode cX12_work 112 = .ok (.ireturn, 1) := by decide +kernel
theorem dX12_work_113 : decode cX12_work 113 = .ok (.aload_n 0, 1) := by decide +kernel
theorem dX12_work_114 : decode cX12_work 114 = .ok (.iconst (-1), 1) := by decide +kernel
theorem dX12_work_115 : decode cX12_work 115 = .ok (.putfield 9, 3) := by decide +kernel
theorem dX12_work_118 : decode cX12_work 118 = .ok (.aload_n 0, 1) := by decide +kernel
theorem dX12_work_119 : decode cX12_work 119 = .ok (.getfield 67, 3) := by decide +kernel
theorem dX12_work_122 : decode cX12_work 122 = .ok (.aload_n 0, 1) := by decide +kernel
theorem dX12_work_123 : decode cX12_work 123 = .ok (.getfield 73, 3) := by decide +kernel
theorem dX12_work_126 : decode cX12_work 126 = .ok (.aload_n 0, 1) := by decide +kernel
theorem dX12_work_127 : decode cX12_work 127 = .ok (.getfield 193, 3) := by decide +kernel
theorem dX12_work_130 : decode cX12_work 130 = .ok (.aaload, 1) := by decide +kernel
theorem dX12_work_131 : decode cX12_work 131 = .ok (.invokestatic 347, 3) := by decide +kernel
theorem dX12_work_134 : decode cX12_work 134 = .ok (.aload_n 0, 1) := by decide +kernel
theorem dX12_work_135 : decode cX12_work 135 = .ok (.dup, 1) := by decide +kernel
theorem dX12_work_136 : decode cX12_work 136 = .ok (.getfield 193, 3) := by decide +kernel
theorem dX12_work_139 : decode cX12_work 139 = .ok (.iconst 1, 1) := by decide +kernel
theorem dX12_work_140 : decode cX12_work 140 = .ok (.iadd, 1) := by decide +kernel
theorem dX12_work_141 : decode cX12_work 141 = .ok (.putfield 193, 3) := by decide +kernel
theorem dX12_work_144 : decode cX12_work 144 = .ok (.aload_n 0, 1) := by decide +kernel
theorem dX12_work_145 : decode cX12_work 145 = .ok (.iconst 0, 1) := by decide +kernel
theorem dX12_work_146 : decode cX12_work 146 = .ok (.putfield 334, 3) := by decide +kernel
theorem dX12_work_149 : decode cX12_work 149 = .ok (.aload_n 0, 1) := by decide +kernel
theorem dX12_work_150 : decode cX12_work 150 = .ok (.iconst 0, 1) := by decide +kernel
theorem dX12_work_151 : decode cX12_work 151 = .ok (.putfield 344, 3) := by decide +kernel
theorem dX12_work_154 : decode cX12_work 154 = .ok (.aload_n 0, 1) := by decide +kernel
theorem dX12_work_155 : decode cX12_work 155 = .ok (.iconst 0, 1) := by decide +kernel
theorem dX12_work_156 : decode cX12_work 156 = .ok (.putfield 196, 3) := by decide +kernel
theorem dX12_work_159 : decode cX12_work 159 = .ok (.aload_n 0, 1) := by decide +kernel
theorem dX12_work_160 : decode cX12_work 160 = .ok (.iconst 0, 1) := by decide +kernel
theorem dX12_work_161 : decode cX12_work 161 = .ok (.aload_n 0, 1) := by decide +kernel
theorem dX12_work_162 : decode cX12_work 162 = .ok (.getfield 251, 3) := by decide +kernel
theorem dX12_work_165 : decode cX12_work 165 = .ok (.invokevirtual 337, 3) := by decide +kernel
theorem dX12_work_168 : decode cX12_work 168 = .ok (.aload_n 0, 1) := by decide +kernel
theorem dX12_work_169 : decode cX12_work 169 = .ok (.getfield 344, 3) := by decide +kernel
theorem dX12_work_172 : decode cX12_work 172 = .ok (.ireturn, 1) := by decide +kernel
theorem dX12_undo_0 : decode cX12_undo 0 = .ok (.aload_n 0, 1) := by decide +kernel
theorem dX12_undo_1 : decode cX12_undo 1 = .ok (.iconst 0, 1) := by decide +kernel
theorem dX12_undo_2 : decode cX12_undo 2 = .ok (.putfield 94, 3) := by decide +kernel
theorem dX12_undo_5 : decode cX12_undo 5 = .ok (.aload_n 0, 1) := by decide +kernel
theorem dX12_undo_6 : decode cX12_undo 6 = .ok (.getfield 193, 3) := by decide +kernel
theorem dX12_undo_9 : decode cX12_undo 9 = .ok (.ifCond .ne 5, 3) := by decide +kernel
theorem dX12_undo_12 : decode cX12_undo 12 = .ok (.iconst (-1), 1) := by decide +kernel
theorem dX12_undo_13 : decode cX12_undo 13 = .ok (.ireturn, 1) := by decide +kernel
theorem dX12_undo_14 : decode cX12_undo 14 = .ok (.aload_n 0, 1) := by decide +kernel
theorem dX12_undo_15 : decode cX12_undo 15 = .ok (.dup, 1) := by decide +kernel
theorem dX12_undo_16 : decode cX12_undo 16 = .ok (.getfield 193, 3) := by decide +kernel
theorem dX12_undo_19 : decode cX12_undo 19 = .ok (.iconst 1, 1) := by decide +kernel
theorem dX12_undo_20 : decode cX12_undo 20 = .ok (.isub, 1) := by decide +kernel
theorem dX12_undo_21 : decode cX12_undo 21 = .ok (.putfield 193, 3) := by decide +kernel
theorem dX12_undo_24 : decode cX12_undo 24 = .ok (.aload_n 0, 1) := by decide +kernel
theorem dX12_undo_25 : decode cX12_undo 25 = .ok (.getfield 73, 3) := by decide +kernel
theorem dX12_undo_28 : decode cX12_undo 28 = .ok (.aload_n 0, 1) := by decide +kernel
theorem dX12_undo_29 : decode cX12_undo 29 = .ok (.getfield 193, 3) := by decide +kernel
theorem dX12_undo_32 : decode cX12_undo 32 = .ok (.aaload, 1) := by decide +kernel
theorem dX12_undo_33 : decode cX12_undo 33 = .ok (.aload_n 0, 1) := by decide +kernel
theorem dX12_undo_34 : decode cX12_undo 34 = .ok (.getfield 67, 3) := by decide +kernel
theorem dX12_undo_37 : decode cX12_undo 37 = .ok (.invokestatic 347, 3) := by decide +kernel
theorem dX12_undo_40 : decode cX12_undo 40 = .ok (.aload_n 0, 1) := by decide +kernel
theorem dX12_undo_41 : decode cX12_undo 41 = .ok (.iconst 0, 1) := by decide +kernel
theorem dX12_undo_42 : decode cX12_undo 42 = .ok (.putfield 196, 3) := by decide +kernel
theorem dX12_undo_45 : decode cX12_undo 45 = .ok (.aload_n 0, 1) := by decide +kernel
theorem dX12_undo_46 : decode cX12_undo 46 = .ok (.getfield 193, 3) := by decide +kernel
theorem dX12_undo_49 : decode cX12_undo 49 = .ok (.ireturn, 1) := by decide +kernel
theorem dX12_records_0 : decode cX12_records 0 = .ok (.iconst 0, 1) := by decide +kernel
theorem dX12_records_1 : decode cX12_records 1 = .ok (.istore_n 2, 1) := by decide +kernel
theorem dX12_records_2 : decode cX12_records 2 = .ok (.iconst 0, 1) := by decide +kernel
theorem dX12_records_3 : decode cX12_records 3 = .ok (.istore_n 3, 1) := by decide +kernel
theorem dX12_records_4 : decode cX12_records 4 = .ok (.iload_n 3, 1) := by decide +kernel
theorem dX12_records_5 : decode cX12_records 5 = .ok (.aload_n 0, 1) := by decide +kernel
theorem dX12_records_6 : decode cX12_records 6 = .ok (.getfield 23, 3) := by decide +kernel
theorem dX12_records_9 : decode cX12_records 9 = .ok (.iconst 0, 1) := by decide +kernel
theorem dX12_records_10 : decode cX12_records 10 = .ok (.iaload, 1) := by decide +kernel
theorem dX12_records_11 : decode cX12_records 11 = .ok (.if_icmp .ge 18, 3) := by decide +kernel
theorem dX12_records_14 : decode cX12_records 14 = .ok (.iload_n 2, 1) := by decide +kernel
theorem dX12_records_15 : decode cX12_records 15 = .ok (.aload_n 1, 1) := by decide +kernel
theorem dX12_records_16 : decode cX12_records 16 = .ok (.bipush 24, 2) := by decide +kernel
theorem dX12_records_18 : decode cX12_records 18 = .ok (.iload_n 3, 1) := by decide +kernel
theorem dX12_records_19 : decode cX12_records 19 = .ok (.iadd, 1) := by decide +kernel
theorem dX12_records_20 : decode cX12_records 20 = .ok (.iaload, 1) := by decide +kernel
theorem dX12_records_21 : decode cX12_records 21 = .ok (.iadd, 1) := by decide +kernel
theorem dX12_records_22 : decode cX12_records 22 = .ok (.istore_n 2, 1) := by decide +kernel
theorem dX12_records_23 : decode cX12_records 23 = .ok (.iinc 3 1, 3) := by decide +kernel
theorem dX12_records_26 : decode cX12_records 26 = .ok (.goto (-22), 3) := by decide +kernel
theorem dX12_records_29 : decode cX12_records 29 = .ok (.iload_n 2, 1) := by decide +kernel
theorem dX12_records_30 : decode cX12_records 30 = .ok (.ireturn, 1) := by decide +kernel
theorem dX12_told_0 : decode cX12_told 0 = .ok (.aload_n 0, 1) := by decide +kernel
theorem dX12_told_1 : decode cX12_told 1 = .ok (.iconst 0, 1) := by decide +kernel
theorem dX12_told_2 : decode cX12_told 2 = .ok (.putfield 94, 3) := by decide +kernel
theorem dX12_told_5 : decode cX12_told 5 = .ok (.aload_n 0, 1) := by decide +kernel
theorem dX12_told_6 : decode cX12_told 6 = .ok (.iload_n 1, 1) := by decide +kernel
theorem dX12_told_7 : decode cX12_told 7 = .ok (.iconst 0, 1) := by decide +kernel
theorem dX12_told_8 : decode cX12_told 8 = .ok (.bipush 10, 2) := by decide +kernel
theorem dX12_told_10 : decode cX12_told 10 = .ok (.invokestatic 128, 3) := by decide +kernel
theorem dX12_told_13 : decode cX12_told 13 = .ok (.ifCond .ne 7, 3) := by decide +kernel
theorem dX12_told_16 : decode cX12_told 16 = .ok (.iconst 1, 1) := by decide +kernel
theorem dX12_told_17 : decode cX12_told 17 = .ok (.goto 4, 3) := by decide +kernel
theorem dX12_told_20 : decode cX12_told 20 = .ok (.iconst 0, 1) := by decide +kernel
theorem dX12_told_21 : decode cX12_told 21 = .ok (.iconst 1, 1) := by decide +kernel
theorem dX12_told_22 : decode cX12_told 22 = .ok (.iconst 1, 1) := by decide +kernel
theorem dX12_told_23 : decode cX12_told 23 = .ok (.invokevirtual 167, 3) := by decide +kernel
theorem dX12_told_26 : decode cX12_told 26 = .ok (.ifCond .eq 5, 3) := by decide +kernel
theorem dX12_told_29 : decode cX12_told 29 = .ok (.iconst 0, 1) := by decide +kernel
theorem dX12_told_30 : decode cX12_told 30 = .ok (.ireturn, 1) := by decide +kernel
theorem dX12_told_31 : decode cX12_told 31 = .ok (.iconst 0, 1) := by decide +kernel
theorem dX12_told_32 : decode cX12_told 32 = .ok (.istore_n 2, 1) := by decide +kernel
theorem dX12_told_33 : decode cX12_told 33 = .ok (.iconst 0, 1) := by decide +kernel
theorem dX12_told_34 : decode cX12_told 34 = .ok (.istore_n 3, 1) := by decide +kernel
theorem dX12_told_35 : decode cX12_told 35 = .ok (.iconst 0, 1) := by decide +kernel
theorem dX12_told_36 : decode cX12_told 36 = .ok (.istore 4, 2) := by decide +kernel
theorem dX12_told_38 : decode cX12_told 38 = .ok (.iload 4, 2) := by decide +kernel
theorem dX12_told_40 : decode cX12_told 40 = .ok (.aload_n 0, 1) := by decide +kernel
theorem dX12_told_41 : decode cX12_told 41 = .ok (.getfield 23, 3) := by decide +kernel
theorem dX12_told_44 : decode cX12_told 44 = .ok (.iconst 0, 1) := by decide +kernel
theorem dX12_told_45 : decode cX12_told 45 = .ok (.iaload, 1) := by decide +kernel
theorem dX12_told_46 : decode cX12_told 46 = .ok (.if_icmp .ge 58, 3) := by decide +kernel
theorem dX12_told_49 : decode cX12_told 49 = .ok (.iload_n 2, 1) := by decide +kernel
theorem dX12_told_50 : decode cX12_told 50 = .ok (.aload_n 0, 1) := by decide +kernel
theorem dX12_told_51 : decode cX12_told 51 = .ok (.getfield 67, 3) := by decide +kernel
theorem dX12_told_54 : decode cX12_told 54 = .ok (.bipush 16, 2) := by decide +kernel
theorem dX12_told_56 : decode cX12_told 56 = .ok (.iload 4, 2) := by decide +kernel
theorem dX12_told_58 : decode cX12_told 58 = .ok (.iadd, 1) := by decide +kernel
theorem dX12_told_59 : decode cX12_told 59 = .ok (.iaload, 1) := by decide +kernel
theorem dX12_told_60 : decode cX12_told 60 = .ok (.iconst (-1), 1) := by decide +kernel
theorem dX12_told_61 : decode cX12_told 61 = .ok (.if_icmp .ne 7, 3) := by decide +kernel
theorem dX12_told_64 : decode cX12_told 64 = .ok (.iconst 0, 1) := by decide +kernel
theorem dX12_told_65 : decode cX12_told 65 = .ok (.goto 7, 3) := by decide +kernel
theorem dX12_told_68 : decode cX12_told 68 = .ok (.iconst 1, 1) := by decide +kernel
theorem dX12_told_69 : decode cX12_told 69 = .ok (.iload 4, 2) := by decide +kernel
theorem dX12_told_71 : decode cX12_told 71 = .ok (.ishl, 1) := by decide +kernel
theorem dX12_told_72 : decode cX12_told 72 = .ok (.ior, 1) := by decide +kernel
theorem dX12_told_73 : decode cX12_told 73 = .ok (.istore_n 2, 1) := by decide +kernel
theorem dX12_told_74 : decode cX12_told 74 = .ok (.iload_n 3, 1) := by decide +kernel
theorem dX12_told_75 : decode cX12_told 75 = .ok (.aload_n 0, 1) := by decide +kernel
theorem dX12_told_76 : decode cX12_told 76 = .ok (.aload_n 0, 1) := by decide +kernel
theorem dX12_told_77 : decode cX12_told 77 = .ok (.getfield 67, 3) := by decide +kernel
theorem dX12_told_80 : decode cX12_told 80 = .ok (.iload 4, 2) := by decide +kernel
theorem dX12_told_82 : decode cX12_told 82 = .ok (.invokevirtual 286, 3) := by decide +kernel
theorem dX12_told_85 : decode cX12_told 85 = .ok (.ifCond .eq 10, 3) := by decide +kernel
theorem dX12_told_88 : decode cX12_told 88 = .ok (.iconst 1, 1) := by decide +kernel
theorem dX12_told_89 : decode cX12_told 89 = .ok (.iload 4, 2) := by decide +kernel
theorem dX12_told_91 : decode cX12_told 91 = .ok (.ishl, 1) := by decide +kernel
theorem dX12_told_92 : decode cX12_told 92 = .ok (.goto 4, 3) := by decide +kernel
theorem dX12_told_95 : decode cX12_told 95 = .ok (.iconst 0, 1) := by decide +kernel
theorem dX12_told_96 : decode cX12_told 96 = .ok (.ior, 1) := by decide +kernel
theorem dX12_told_97 : decode cX12_told 97 = .ok (.istore_n 3, 1) := by decide +kernel
theorem dX12_told_98 : decode cX12_told 98 = .ok (.iinc 4 1, 3) := by decide +kernel
theorem dX12_told_101 : decode cX12_told 101 = .ok (.goto (-63), 3) := by decide +kernel
theorem dX12_told_104 : decode cX12_told 104 = .ok (.iload_n 1, 1) := by decide +kernel
theorem dX12_told_105 : decode cX12_told 105 = .ok (.tableswitch 112 0 9 #[55, 55, 62, 70, 72, 81, 89, 97, 102, 107], 55) := by decide +kernel
theorem dX12_told_160 : decode cX12_told 160 = .ok (.aload_n 0, 1) := by decide +kernel
theorem dX12_told_161 : decode cX12_told 161 = .ok (.getfield 23, 3) := by decide +kernel
theorem dX12_told_164 : decode cX12_told 164 = .ok (.iload_n 1, 1) := by decide +kernel
theorem dX12_told_165 : decode cX12_told 165 = .ok (.iaload, 1) := by decide +kernel
theorem dX12_told_166 : decode cX12_told 166 = .ok (.ireturn, 1) := by decide +kernel
theorem dX12_told_167 : decode cX12_told 167 = .ok (.aload_n 0, 1) := by decide +kernel
theorem dX12_told_168 : decode cX12_told 168 = .ok (.getfield 67, 3) := by decide +kernel
theorem dX12_told_171 : decode cX12_told 171 = .ok (.bipush 32, 2) := by decide +kernel
theorem dX12_told_173 : decode cX12_told 173 = .ok (.iaload, 1) := by decide +kernel
theorem dX12_told_174 : decode cX12_told 174 = .ok (.ireturn, 1) := by decide +kernel
theorem dX12_told_175 : decode cX12_told 175 = .ok (.iload_n 2, 1) := by decide +kernel
theorem dX12_told_176 : decode cX12_told 176 = .ok (.ireturn, 1) := by decide +kernel
theorem dX12_told_177 : decode cX12_told 177 = .ok (.aload_n 0, 1) := by decide +kernel
theorem dX12_told_178 : decode cX12_told 178 = .ok (.aload_n 0, 1) := by decide +kernel
theorem dX12_told_179 : decode cX12_told 179 = .ok (.getfield 67, 3) := by decide +kernel
theorem dX12_told_182 : decode cX12_told 182 = .ok (.invokevirtual 351, 3) := by decide +kernel
theorem dX12_told_185 : decode cX12_told 185 = .ok (.ireturn, 1) := by decide +kernel
theorem dX12_told_186 : decode cX12_told 186 = .ok (.aload_n 0, 1) := by decide +kernel
theorem dX12_told_187 : decode cX12_told 187 = .ok (.getfield 67, 3) := by decide +kernel
theorem dX12_told_190 : decode cX12_told 190 = .ok (.bipush 33, 2) := by decide +kernel
theorem dX12_told_192 : decode cX12_told 192 = .ok (.iaload, 1) := by decide +kernel
theorem dX12_told_193 : decode cX12_told 193 = .ok (.ireturn, 1) := by decide +kernel
theorem dX12_told_194 : decode cX12_told 194 = .ok (.aload_n 0, 1) := by decide +kernel
theorem dX12_told_195 : decode cX12_told 195 = .ok (.getfield 67, 3) := by decide +kernel
theorem dX12_told_198 : decode cX12_told 198 = .ok (.bipush 34, 2) := by decide +kernel
theorem dX12_told_200 : decode cX12_told 200 = .ok (.iaload, 1) := by decide +kernel
theorem dX12_told_201 : decode cX12_told 201 = .ok (.ireturn, 1) := by decide +kernel
theorem dX12_told_202 : decode cX12_told 202 = .ok (.aload_n 0, 1) := by decide +kernel
theorem dX12_told_203 : decode cX12_told 203 = .ok (.getfield 190, 3) := by decide +kernel
theorem dX12_told_206 : decode cX12_told 206 = .ok (.ireturn, 1) := by decide +kernel
theorem dX12_told_207 : decode cX12_told 207 = .ok (.aload_n 0, 1) := by decide +kernel
theorem dX12_told_208 : decode cX12_told 208 = .ok (.getfield 187, 3) := by decide +kernel
theorem dX12_told_211 : decode cX12_told 211 = .ok (.ireturn, 1) := by decide +kernel
theorem dX12_told_212 : decode cX12_told 212 = .ok (.aload_n 0, 1) := by decide +kernel
theorem dX12_told_213 : decode cX12_told 213 = .ok (.getfield 196, 3) := by decide +kernel
theorem dX12_told_216 : decode cX12_told 216 = .ok (.ireturn, 1) := by decide +kernel
theorem dX12_told_217 : decode cX12_told 217 = .ok (.iload_n 3, 1) := by decide +kernel
theorem dX12_told_218 : decode cX12_told 218 = .ok (.ireturn, 1) := by decide +kernel
theorem dX12_isPen_0 : decode cX12_isPen 0 = .ok (.iload_n 1, 1) := by decide +kernel
theorem dX12_isPen_1 : decode cX12_isPen 1 = .ok (.iconst 0, 1) := by decide +kernel
theorem dX12_isPen_2 : decode cX12_isPen 2 = .ok (.aload_n 0, 1) := by decide +kernel
theorem dX12_isPen_3 : decode cX12_isPen 3 = .ok (.getfield 23, 3) := by decide +kernel
theorem dX12_isPen_6 : decode cX12_isPen 6 = .ok (.iconst 0, 1) := by decide +kernel
theorem dX12_isPen_7 : decode cX12_isPen 7 = .ok (.iaload, 1) := by decide +kernel
theorem dX12_isPen_8 : decode cX12_isPen 8 = .ok (.iconst 1, 1) := by decide +kernel
theorem dX12_isPen_9 : decode cX12_isPen 9 = .ok (.isub, 1) := by decide +kernel
theorem dX12_isPen_10 : decode cX12_isPen 10 = .ok (.invokestatic 128, 3) := by decide +kernel
theorem dX12_isPen_13 : decode cX12_isPen 13 = .ok (.ireturn, 1) := by decide +kernel
theorem dX12_wired_0 : decode cX12_wired 0 = .ok (.iconst 0, 1) := by decide +kernel
theorem dX12_wired_1 : decode cX12_wired 1 = .ok (.istore_n 3, 1) := by decide +kernel
theorem dX12_wired_2 : decode cX12_wired 2 = .ok (.iconst 0, 1) := by decide +kernel
theorem dX12_wired_3 : decode cX12_wired 3 = .ok (.istore 4, 2) := by decide +kernel
theorem dX12_wired_5 : decode cX12_wired 5 = .ok (.iload 4, 2) := by decide +kernel
theorem dX12_wired_7 : decode cX12_wired 7 = .ok (.aload_n 0, 1) := by decide +kernel
theorem dX12_wired_8 : decode cX12_wired 8 = .ok (.getfield 23, 3) := by decide +kernel
theorem dX12_wired_11 : decode cX12_wired 11 = .ok (.iconst 1, 1) := by decide +kernel
theorem dX12_wired_12 : decode cX12_wired 12 = .ok (.iaload, 1) := by decide +kernel
theorem dX12_wired_13 : decode cX12_wired 13 = .ok (.if_icmp .ge 42, 3) := by decide +kernel
theorem dX12_wired_16 : decode cX12_wired 16 = .ok (.iload_n 3, 1) := by decide +kernel
theorem dX12_wired_17 : decode cX12_wired 17 = .ok (.aload_n 0, 1) := by decide +kernel
theorem dX12_wired_18 : decode cX12_wired 18 = .ok (.getfield 37, 3) := by decide +kernel
theorem dX12_wired_21 : decode cX12_wired 21 = .ok (.iload 4, 2) := by decide +kernel
theorem dX12_wired_23 : decode cX12_wired 23 = .ok (.aaload, 1) := by decide +kernel
theorem dX12_wired_24 : decode cX12_wired 24 = .ok (.iload_n 2, 1) := by decide +kernel
theorem dX12_wired_25 : decode cX12_wired 25 = .ok (.iaload, 1) := by decide +kernel
theorem dX12_wired_26 : decode cX12_wired 26 = .ok (.iload_n 1, 1) := by decide +kernel
theorem dX12_wired_27 : decode cX12_wired 27 = .ok (.if_icmp .ne 19, 3) := by decide +kernel
theorem dX12_wired_30 : decode cX12_wired 30 = .ok (.iconst 1, 1) := by decide +kernel
theorem dX12_wired_31 : decode cX12_wired 31 = .ok (.aload_n 0, 1) := by decide +kernel
theorem dX12_wired_32 : decode cX12_wired 32 = .ok (.getfield 37, 3) := by decide +kernel
theorem dX12_wired_35 : decode cX12_wired 35 = .ok (.iload 4, 2) := by decide +kernel
theorem dX12_wired_37 : decode cX12_wired 37 = .ok (.aaload, 1) := by decide +kernel
theorem dX12_wired_38 : decode cX12_wired 38 = .ok (.iconst 1, 1) := by decide +kernel
theorem dX12_wired_39 : decode cX12_wired 39 = .ok (.iload_n 2, 1) := by decide +kernel
theorem dX12_wired_40 : decode cX12_wired 40 = .ok (.isub, 1) := by decide +kernel
theorem dX12_wired_41 : decode cX12_wired 41 = .ok (.iaload, 1) := by decide +kernel
theorem dX12_wired_42 : decode cX12_wired 42 = .ok (.ishl, 1) := by decide +kernel
theorem dX12_wired_43 : decode cX12_wired 43 = .ok (.goto 4, 3) := by decide +kernel
theorem dX12_wired_46 : decode cX12_wired 46 = .ok (.iconst 0, 1) := by decide +kernel
theorem dX12_wired_47 : decode cX12_wired 47 = .ok (.ior, 1) := by decide +kernel
theorem dX12_wired_48 : decode cX12_wired 48 = .ok (.istore_n 3, 1) := by decide +kernel
