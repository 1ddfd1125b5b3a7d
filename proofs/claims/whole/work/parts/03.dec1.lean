theorem dX0_init_0 : decode cX0_init 0 = .ok (.aload_n 0, 1) := by decide +kernel
theorem dX0_init_1 : decode cX0_init 1 = .ok (.invokespecial 3, 3) := by decide +kernel
theorem dX0_init_4 : decode cX0_init 4 = .ok (.aload_n 0, 1) := by decide +kernel
theorem dX0_init_5 : decode cX0_init 5 = .ok (.bipush 6, 2) := by decide +kernel
theorem dX0_init_7 : decode cX0_init 7 = .ok (.newarray .int, 2) := by decide +kernel
theorem dX0_init_9 : decode cX0_init 9 = .ok (.putfield 9, 3) := by decide +kernel
theorem dX0_init_12 : decode cX0_init 12 = .ok (.aload_n 0, 1) := by decide +kernel
theorem dX0_init_13 : decode cX0_init 13 = .ok (.bipush 6, 2) := by decide +kernel
theorem dX0_init_15 : decode cX0_init 15 = .ok (.newarray .int, 2) := by decide +kernel
theorem dX0_init_17 : decode cX0_init 17 = .ok (.putfield 15, 3) := by decide +kernel
theorem dX0_init_20 : decode cX0_init 20 = .ok (.return_, 1) := by decide +kernel
theorem dX0_clear_0 : decode cX0_clear 0 = .ok (.aload_n 0, 1) := by decide +kernel
theorem dX0_clear_1 : decode cX0_clear 1 = .ok (.iconst 0, 1) := by decide +kernel
theorem dX0_clear_2 : decode cX0_clear 2 = .ok (.putfield 18, 3) := by decide +kernel
theorem dX0_clear_5 : decode cX0_clear 5 = .ok (.return_, 1) := by decide +kernel
theorem dX0_parse_0 : decode cX0_parse 0 = .ok (.aload_n 0, 1) := by decide +kernel
theorem dX0_parse_1 : decode cX0_parse 1 = .ok (.iconst 0, 1) := by decide +kernel
theorem dX0_parse_2 : decode cX0_parse 2 = .ok (.putfield 18, 3) := by decide +kernel
theorem dX0_parse_5 : decode cX0_parse 5 = .ok (.iconst 0, 1) := by decide +kernel
theorem dX0_parse_6 : decode cX0_parse 6 = .ok (.istore_n 2, 1) := by decide +kernel
theorem dX0_parse_7 : decode cX0_parse 7 = .ok (.iload_n 2, 1) := by decide +kernel
theorem dX0_parse_8 : decode cX0_parse 8 = .ok (.bipush 6, 2) := by decide +kernel
theorem dX0_parse_10 : decode cX0_parse 10 = .ok (.if_icmp .gt 84, 3) := by decide +kernel
theorem dX0_parse_13 : decode cX0_parse 13 = .ok (.aload_n 1, 1) := by decide +kernel
theorem dX0_parse_14 : decode cX0_parse 14 = .ok (.invokevirtual 22, 3) := by decide +kernel
theorem dX0_parse_17 : decode cX0_parse 17 = .ok (.ifCond .eq 77, 3) := by decide +kernel
theorem dX0_parse_20 : decode cX0_parse 20 = .ok (.aload_n 1, 1) := by decide +kernel
theorem dX0_parse_21 : decode cX0_parse 21 = .ok (.sipush 9999, 3) := by decide +kernel
theorem dX0_parse_24 : decode cX0_parse 24 = .ok (.invokevirtual 28, 3) := by decide +kernel
theorem dX0_parse_27 : decode cX0_parse 27 = .ok (.istore_n 3, 1) := by decide +kernel
theorem dX0_parse_28 : decode cX0_parse 28 = .ok (.aload_n 0, 1) := by decide +kernel
theorem dX0_parse_29 : decode cX0_parse 29 = .ok (.getfield 18, 3) := by decide +kernel
theorem dX0_parse_32 : decode cX0_parse 32 = .ok (.bipush 6, 2) := by decide +kernel
theorem dX0_parse_34 : decode cX0_parse 34 = .ok (.if_icmp .lt 13, 3) := by decide +kernel
theorem dX0_parse_37 : decode cX0_parse 37 = .ok (.aload_n 1, 1) := by decide +kernel
theorem dX0_parse_38 : decode cX0_parse 38 = .ok (.iconst 3, 1) := by decide +kernel
theorem dX0_parse_39 : decode cX0_parse 39 = .ok (.aload_n 1, 1) := by decide +kernel
theorem dX0_parse_40 : decode cX0_parse 40 = .ok (.getfield 32, 3) := by decide +kernel
theorem dX0_parse_43 : decode cX0_parse 43 = .ok (.invokevirtual 35, 3) := by decide +kernel
theorem dX0_parse_46 : decode cX0_parse 46 = .ok (.return_, 1) := by decide +kernel
theorem dX0_parse_47 : decode cX0_parse 47 = .ok (.aload_n 0, 1) := by decide +kernel
theorem dX0_parse_48 : decode cX0_parse 48 = .ok (.getfield 9, 3) := by decide +kernel
theorem dX0_parse_51 : decode cX0_parse 51 = .ok (.aload_n 0, 1) := by decide +kernel
theorem dX0_parse_52 : decode cX0_parse 52 = .ok (.getfield 18, 3) := by decide +kernel
theorem dX0_parse_55 : decode cX0_parse 55 = .ok (.iload_n 3, 1) := by decide +kernel
theorem dX0_parse_56 : decode cX0_parse 56 = .ok (.iastore, 1) := by decide +kernel
theorem dX0_parse_57 : decode cX0_parse 57 = .ok (.aload_n 0, 1) := by decide +kernel
theorem dX0_parse_58 : decode cX0_parse 58 = .ok (.getfield 15, 3) := by decide +kernel
theorem dX0_parse_61 : decode cX0_parse 61 = .ok (.aload_n 0, 1) := by decide +kernel
theorem dX0_parse_62 : decode cX0_parse 62 = .ok (.getfield 18, 3) := by decide +kernel
theorem dX0_parse_65 : decode cX0_parse 65 = .ok (.aload_n 1, 1) := by decide +kernel
theorem dX0_parse_66 : decode cX0_parse 66 = .ok (.ldc 39, 2) := by decide +kernel
theorem dX0_parse_68 : decode cX0_parse 68 = .ok (.invokevirtual 28, 3) := by decide +kernel
theorem dX0_parse_71 : decode cX0_parse 71 = .ok (.iastore, 1) := by decide +kernel
theorem dX0_parse_72 : decode cX0_parse 72 = .ok (.aload_n 0, 1) := by decide +kernel
theorem dX0_parse_73 : decode cX0_parse 73 = .ok (.dup, 1) := by decide +kernel
theorem dX0_parse_74 : decode cX0_parse 74 = .ok (.getfield 18, 3) := by decide +kernel
theorem dX0_parse_77 : decode cX0_parse 77 = .ok (.iconst 1, 1) := by decide +kernel
theorem dX0_parse_78 : decode cX0_parse 78 = .ok (.iadd, 1) := by decide +kernel
theorem dX0_parse_79 : decode cX0_parse 79 = .ok (.putfield 18, 3) := by decide +kernel
theorem dX0_parse_82 : decode cX0_parse 82 = .ok (.aload_n 1, 1) := by decide +kernel
theorem dX0_parse_83 : decode cX0_parse 83 = .ok (.bipush 59, 2) := by decide +kernel
theorem dX0_parse_85 : decode cX0_parse 85 = .ok (.invokevirtual 40, 3) := by decide +kernel
theorem dX0_parse_88 : decode cX0_parse 88 = .ok (.iinc 2 1, 3) := by decide +kernel
theorem dX0_parse_91 : decode cX0_parse 91 = .ok (.goto (-84), 3) := by decide +kernel
theorem dX0_parse_94 : decode cX0_parse 94 = .ok (.return_, 1) := by decide +kernel
theorem dX1_init_0 : decode cX1_init 0 = .ok (.aload_n 0, 1) := by decide +kernel
theorem dX1_init_1 : decode cX1_init 1 = .ok (.invokespecial 3, 3) := by decide +kernel
theorem dX1_init_4 : decode cX1_init 4 = .ok (.aload_n 0, 1) := by decide +kernel
theorem dX1_init_5 : decode cX1_init 5 = .ok (.bipush 12, 2) := by decide +kernel
theorem dX1_init_7 : decode cX1_init 7 = .ok (.newarray .int, 2) := by decide +kernel
theorem dX1_init_9 : decode cX1_init 9 = .ok (.putfield 9, 3) := by decide +kernel
theorem dX1_init_12 : decode cX1_init 12 = .ok (.return_, 1) := by decide +kernel
theorem dX1_clear_0 : decode cX1_clear 0 = .ok (.aload_n 0, 1) := by decide +kernel
theorem dX1_clear_1 : decode cX1_clear 1 = .ok (.iconst 0, 1) := by decide +kernel
theorem dX1_clear_2 : decode cX1_clear 2 = .ok (.putfield 15, 3) := by decide +kernel
theorem dX1_clear_5 : decode cX1_clear 5 = .ok (.return_, 1) := by decide +kernel
theorem dX1_parse_0 : decode cX1_parse 0 = .ok (.aload_n 0, 1) := by decide +kernel
theorem dX1_parse_1 : decode cX1_parse 1 = .ok (.iconst 0, 1) := by decide +kernel
theorem dX1_parse_2 : decode cX1_parse 2 = .ok (.putfield 15, 3) := by decide +kernel
theorem dX1_parse_5 : decode cX1_parse 5 = .ok (.iconst 0, 1) := by decide +kernel
theorem dX1_parse_6 : decode cX1_parse 6 = .ok (.istore_n 3, 1) := by decide +kernel
theorem dX1_parse_7 : decode cX1_parse 7 = .ok (.iload_n 3, 1) := by decide +kernel
theorem dX1_parse_8 : decode cX1_parse 8 = .ok (.bipush 12, 2) := by decide +kernel
theorem dX1_parse_10 : decode cX1_parse 10 = .ok (.if_icmp .gt 71, 3) := by decide +kernel
theorem dX1_parse_13 : decode cX1_parse 13 = .ok (.aload_n 1, 1) := by decide +kernel
theorem dX1_parse_14 : decode cX1_parse 14 = .ok (.invokevirtual 19, 3) := by decide +kernel
theorem dX1_parse_17 : decode cX1_parse 17 = .ok (.ifCond .eq 64, 3) := by decide +kernel
theorem dX1_parse_20 : decode cX1_parse 20 = .ok (.aload_n 1, 1) := by decide +kernel
theorem dX1_parse_21 : decode cX1_parse 21 = .ok (.iload_n 2, 1) := by decide +kernel
theorem dX1_parse_22 : decode cX1_parse 22 = .ok (.iconst 1, 1) := by decide +kernel
theorem dX1_parse_23 : decode cX1_parse 23 = .ok (.isub, 1) := by decide +kernel
theorem dX1_parse_24 : decode cX1_parse 24 = .ok (.invokevirtual 25, 3) := by decide +kernel
theorem dX1_parse_27 : decode cX1_parse 27 = .ok (.istore 4, 2) := by decide +kernel
theorem dX1_parse_29 : decode cX1_parse 29 = .ok (.aload_n 0, 1) := by decide +kernel
theorem dX1_parse_30 : decode cX1_parse 30 = .ok (.getfield 15, 3) := by decide +kernel
theorem dX1_parse_33 : decode cX1_parse 33 = .ok (.bipush 12, 2) := by decide +kernel
theorem dX1_parse_35 : decode cX1_parse 35 = .ok (.if_icmp .lt 13, 3) := by decide +kernel
theorem dX1_parse_38 : decode cX1_parse 38 = .ok (.aload_n 1, 1) := by decide +kernel
theorem dX1_parse_39 : decode cX1_parse 39 = .ok (.iconst 3, 1) := by decide +kernel
theorem dX1_parse_40 : decode cX1_parse 40 = .ok (.aload_n 1, 1) := by decide +kernel
theorem dX1_parse_41 : decode cX1_parse 41 = .ok (.getfield 29, 3) := by decide +kernel
theorem dX1_parse_44 : decode cX1_parse 44 = .ok (.invokevirtual 32, 3) := by decide +kernel
theorem dX1_parse_47 : decode cX1_parse 47 = .ok (.return_, 1) := by decide +kernel
theorem dX1_parse_48 : decode cX1_parse 48 = .ok (.aload_n 0, 1) := by decide +kernel
theorem dX1_parse_49 : decode cX1_parse 49 = .ok (.getfield 9, 3) := by decide +kernel
theorem dX1_parse_52 : decode cX1_parse 52 = .ok (.aload_n 0, 1) := by decide +kernel
theorem dX1_parse_53 : decode cX1_parse 53 = .ok (.getfield 15, 3) := by decide +kernel
theorem dX1_parse_56 : decode cX1_parse 56 = .ok (.iload 4, 2) := by decide +kernel
theorem dX1_parse_58 : decode cX1_parse 58 = .ok (.iastore, 1) := by decide +kernel
theorem dX1_parse_59 : decode cX1_parse 59 = .ok (.aload_n 0, 1) := by decide +kernel
theorem dX1_parse_60 : decode cX1_parse 60 = .ok (.dup, 1) := by decide +kernel
theorem dX1_parse_61 : decode cX1_parse 61 = .ok (.getfield 15, 3) := by decide +kernel
theorem dX1_parse_64 : decode cX1_parse 64 = .ok (.iconst 1, 1) := by decide +kernel
theorem dX1_parse_65 : decode cX1_parse 65 = .ok (.iadd, 1) := by decide +kernel
theorem dX1_parse_66 : decode cX1_parse 66 = .ok (.putfield 15, 3) := by decide +kernel
theorem dX1_parse_69 : decode cX1_parse 69 = .ok (.aload_n 1, 1) := by decide +kernel
theorem dX1_parse_70 : decode cX1_parse 70 = .ok (.bipush 59, 2) := by decide +kernel
theorem dX1_parse_72 : decode cX1_parse 72 = .ok (.invokevirtual 36, 3) := by decide +kernel
theorem dX1_parse_75 : decode cX1_parse 75 = .ok (.iinc 3 1, 3) := by decide +kernel
theorem dX1_parse_78 : decode cX1_parse 78 = .ok (.goto (-71), 3) := by decide +kernel
theorem dX1_parse_81 : decode cX1_parse 81 = .ok (.return_, 1) := by decide +kernel
theorem dX2_init_0 : decode cX2_init 0 = .ok (.aload_n 0, 1) := by decide +kernel
theorem dX2_init_1 : decode cX2_init 1 = .ok (.invokespecial 3, 3) := by decide +kernel
theorem dX2_init_4 : decode cX2_init 4 = .ok (.aload_n 0, 1) := by decide +kernel
theorem dX2_init_5 : decode cX2_init 5 = .ok (.bipush 16, 2) := by decide +kernel
theorem dX2_init_7 : decode cX2_init 7 = .ok (.anewarray 9, 3) := by decide +kernel
theorem dX2_init_10 : decode cX2_init 10 = .ok (.putfield 11, 3) := by decide +kernel
theorem dX2_init_13 : decode cX2_init 13 = .ok (.aload_n 0, 1) := by decide +kernel
theorem dX2_init_14 : decode cX2_init 14 = .ok (.iconst 3, 1) := by decide +kernel
theorem dX2_init_15 : decode cX2_init 15 = .ok (.anewarray 9, 3) := by decide +kernel
theorem dX2_init_18 : decode cX2_init 18 = .ok (.putfield 17, 3) := by decide +kernel
theorem dX2_init_21 : decode cX2_init 21 = .ok (.aload_n 0, 1) := by decide +kernel
theorem dX2_init_22 : decode cX2_init 22 = .ok (.bipush 48, 2) := by decide +kernel
theorem dX2_init_24 : decode cX2_init 24 = .ok (.anewarray 9, 3) := by decide +kernel
theorem dX2_init_27 : decode cX2_init 27 = .ok (.putfield 20, 3) := by decide +kernel
theorem dX2_init_30 : decode cX2_init 30 = .ok (.aload_n 0, 1) := by decide +kernel
theorem dX2_init_31 : decode cX2_init 31 = .ok (.iconst 3, 1) := by decide +kernel
theorem dX2_init_32 : decode cX2_init 32 = .ok (.newarray .int, 2) := by decide +kernel
theorem dX2_init_34 : decode cX2_init 34 = .ok (.putfield 23, 3) := by decide +kernel
theorem dX2_init_37 : decode cX2_init 37 = .ok (.return_, 1) := by decide +kernel
theorem dX2_clear_0 : decode cX2_clear 0 = .ok (.aload_n 0, 1) := by decide +kernel
theorem dX2_clear_1 : decode cX2_clear 1 = .ok (.iconst 0, 1) := by decide +kernel
theorem dX2_clear_2 : decode cX2_clear 2 = .ok (.putfield 27, 3) := by decide +kernel
theorem dX2_clear_5 : decode cX2_clear 5 = .ok (.aload_n 0, 1) := by decide +kernel
theorem dX2_clear_6 : decode cX2_clear 6 = .ok (.iconst 0, 1) := by decide +kernel
theorem dX2_clear_7 : decode cX2_clear 7 = .ok (.putfield 31, 3) := by decide +kernel
theorem dX2_clear_10 : decode cX2_clear 10 = .ok (.return_, 1) := by decide +kernel
theorem dX2_slot_0 : decode cX2_slot 0 = .ok (.aload_n 0, 1) := by decide +kernel
theorem dX2_slot_1 : decode cX2_slot 1 = .ok (.iload_n 1, 1) := by decide +kernel
theorem dX2_slot_2 : decode cX2_slot 2 = .ok (.aaload, 1) := by decide +kernel
theorem dX2_slot_3 : decode cX2_slot 3 = .ok (.ifnonnull 13, 3) := by decide +kernel
theorem dX2_slot_6 : decode cX2_slot 6 = .ok (.aload_n 0, 1) := by decide +kernel
theorem dX2_slot_7 : decode cX2_slot 7 = .ok (.iload_n 1, 1) := by decide +kernel
theorem dX2_slot_8 : decode cX2_slot 8 = .ok (.new 9, 3) := by decide +kernel
theorem dX2_slot_11 : decode cX2_slot 11 = .ok (.dup, 1) := by decide +kernel
theorem dX2_slot_12 : decode cX2_slot 12 = .ok (.invokespecial 34, 3) := by decide +kernel
theorem dX2_slot_15 : decode cX2_slot 15 = .ok (.aastore, 1) := by decide +kernel
theorem dX2_slot_16 : decode cX2_slot 16 = .ok (.aload_n 0, 1) := by decide +kernel
theorem dX2_slot_17 : decode cX2_slot 17 = .ok (.iload_n 1, 1) := by decide +kernel
theorem dX2_slot_18 : decode cX2_slot 18 = .ok (.aaload, 1) := by decide +kernel
theorem dX2_slot_19 : decode cX2_slot 19 = .ok (.areturn, 1) := by decide +kernel
theorem dX2_keep_0 : decode cX2_keep 0 = .ok (.aload_n 0, 1) := by decide +kernel
theorem dX2_keep_1 : decode cX2_keep 1 = .ok (.getfield 11, 3) := by decide +kernel
theorem dX2_keep_4 : decode cX2_keep 4 = .ok (.aload_n 0, 1) := by decide +kernel
theorem dX2_keep_5 : decode cX2_keep 5 = .ok (.getfield 27, 3) := by decide +kernel
theorem dX2_keep_8 : decode cX2_keep 8 = .ok (.invokestatic 35, 3) := by decide +kernel
theorem dX2_keep_11 : decode cX2_keep 11 = .ok (.aload_n 1, 1) := by decide +kernel
theorem dX2_keep_12 : decode cX2_keep 12 = .ok (.invokevirtual 39, 3) := by decide +kernel
theorem dX2_keep_15 : decode cX2_keep 15 = .ok (.aload_n 0, 1) := by decide +kernel
theorem dX2_keep_16 : decode cX2_keep 16 = .ok (.dup, 1) := by decide +kernel
theorem dX2_keep_17 : decode cX2_keep 17 = .ok (.getfield 27, 3) := by decide +kernel
theorem dX2_keep_20 : decode cX2_keep 20 = .ok (.iconst 1, 1) := by decide +kernel
theorem dX2_keep_21 : decode cX2_keep 21 = .ok (.iadd, 1) := by decide +kernel
theorem dX2_keep_22 : decode cX2_keep 22 = .ok (.putfield 27, 3) := by decide +kernel
theorem dX2_keep_25 : decode cX2_keep 25 = .ok (.return_, 1) := by decide +kernel
theorem dX2_takeBack_0 : decode cX2_takeBack 0 = .ok (.aload_n 0, 1) := by decide +kernel
theorem dX2_takeBack_1 : decode cX2_takeBack 1 = .ok (.dup, 1) := by decide +kernel
theorem dX2_takeBack_2 : decode cX2_takeBack 2 = .ok (.getfield 27, 3) := by decide +kernel
theorem dX2_takeBack_5 : decode cX2_takeBack 5 = .ok (.iconst 1, 1) := by decide +kernel
theorem dX2_takeBack_6 : decode cX2_takeBack 6 = .ok (.isub, 1) := by decide +kernel
theorem dX2_takeBack_7 : decode cX2_takeBack 7 = .ok (.putfield 27, 3) := by decide +kernel
theorem dX2_takeBack_10 : decode cX2_takeBack 10 = .ok (.aload_n 1, 1) := by decide +kernel
theorem dX2_takeBack_11 : decode cX2_takeBack 11 = .ok (.aload_n 0, 1) := by decide +kernel
theorem dX2_takeBack_12 : decode cX2_takeBack 12 = .ok (.getfield 11, 3) := by decide +kernel
theorem dX2_takeBack_15 : decode cX2_takeBack 15 = .ok (.aload_n 0, 1) := by decide +kernel
theorem dX2_takeBack_16 : decode cX2_takeBack 16 = .ok (.getfield 27, 3) := by decide +kernel
theorem dX2_takeBack_19 : decode cX2_takeBack 19 = .ok (.invokestatic 35, 3) := by decide +kernel
theorem dX2_takeBack_22 : decode cX2_takeBack 22 = .ok (.invokevirtual 39, 3) := by decide +kernel
theorem dX2_takeBack_25 : decode cX2_takeBack 25 = .ok (.return_, 1) := by decide +kernel
theorem dX2_takeImage_0 : decode cX2_takeImage 0 = .ok (.aload_n 0, 1) := by decide +kernel
theorem dX2_takeImage_1 : decode cX2_takeImage 1 = .ok (.getfield 17, 3) := by decide +kernel
theorem dX2_takeImage_4 : decode cX2_takeImage 4 = .ok (.aload_n 0, 1) := by decide +kernel
theorem dX2_takeImage_5 : decode cX2_takeImage 5 = .ok (.getfield 31, 3) := by decide +kernel
theorem dX2_takeImage_8 : decode cX2_takeImage 8 = .ok (.invokestatic 35, 3) := by decide +kernel
theorem dX2_takeImage_11 : decode cX2_takeImage 11 = .ok (.aload_n 1, 1) := by decide +kernel
theorem dX2_takeImage_12 : decode cX2_takeImage 12 = .ok (.invokevirtual 39, 3) := by decide +kernel
theorem dX2_takeImage_15 : decode cX2_takeImage 15 = .ok (.aload_n 0, 1) := by decide +kernel
theorem dX2_takeImage_16 : decode cX2_takeImage 16 = .ok (.getfield 23, 3) := by decide +kernel
theorem dX2_takeImage_19 : decode cX2_takeImage 19 = .ok (.aload_n 0, 1) := by decide +kernel
theorem dX2_takeImage_20 : decode cX2_takeImage 20 = .ok (.getfield 31, 3) := by decide +kernel
theorem dX2_takeImage_23 : decode cX2_takeImage 23 = .ok (.aload_n 0, 1) := by decide +kernel
theorem dX2_takeImage_24 : decode cX2_takeImage 24 = .ok (.getfield 27, 3) := by decide +kernel
theorem dX2_takeImage_27 : decode cX2_takeImage 27 = .ok (.iastore, 1) := by decide +kernel
theorem dX2_takeImage_28 : decode cX2_takeImage 28 = .ok (.iconst 0, 1) := by decide +kernel
theorem dX2_takeImage_29 : decode cX2_takeImage 29 = .ok (.istore_n 2, 1) := by decide +kernel
theorem dX2_takeImage_30 : decode cX2_takeImage 30 = .ok (.iload_n 2, 1) := by decide +kernel
theorem dX2_takeImage_31 : decode cX2_takeImage 31 = .ok (.aload_n 0, 1) := by decide +kernel
theorem dX2_takeImage_32 : decode cX2_takeImage 32 = .ok (.getfield 27, 3) := by decide +kernel
theorem dX2_takeImage_35 : decode cX2_takeImage 35 = .ok (.if_icmp .ge 36, 3) := by decide +kernel
theorem dX2_takeImage_38 : decode cX2_takeImage 38 = .ok (.aload_n 0, 1) := by decide +kernel
theorem dX2_takeImage_39 : decode cX2_takeImage 39 = .ok (.getfield 20, 3) := by decide +kernel
theorem dX2_takeImage_42 : decode cX2_takeImage 42 = .ok (.aload_n 0, 1) := by decide +kernel
theorem dX2_takeImage_43 : decode cX2_takeImage 43 = .ok (.getfield 31, 3) := by decide +kernel
theorem dX2_takeImage_46 : decode cX2_takeImage 46 = .ok (.bipush 16, 2) := by decide +kernel
theorem dX2_takeImage_48 : decode cX2_takeImage 48 = .ok (.imul, 1) := by decide +kernel
theorem dX2_takeImage_49 : decode cX2_takeImage 49 = .ok (.iload_n 2, 1) := by decide +kernel
theorem dX2_takeImage_50 : decode cX2_takeImage 50 = .ok (.iadd, 1) := by decide +kernel
theorem dX2_takeImage_51 : decode cX2_takeImage 51 = .ok (.invokestatic 35, 3) := by decide +kernel
theorem dX2_takeImage_54 : decode cX2_takeImage 54 = .ok (.aload_n 0, 1) := by decide +kernel
theorem dX2_takeImage_55 : decode cX2_takeImage 55 = .ok (.getfield 11, 3) := by decide +kernel
theorem dX2_takeImage_58 : decode cX2_takeImage 58 = .ok (.iload_n 2, 1) := by decide +kernel
theorem dX2_takeImage_59 : decode cX2_takeImage 59 = .ok (.invokestatic 35, 3) := by decide +kernel
theorem dX2_takeImage_62 : decode cX2_takeImage 62 = .ok (.invokevirtual 39, 3) := by decide +kernel
theorem dX2_takeImage_65 : decode cX2_takeImage 65 = .ok (.iinc 2 1, 3) := by decide +kernel
theorem dX2_takeImage_68 : decode cX2_takeImage 68 = .ok (.goto (-38), 3) := by decide +kernel
theorem dX2_takeImage_71 : decode cX2_takeImage 71 = .ok (.aload_n 0, 1) := by decide +kernel
theorem dX2_takeImage_72 : decode cX2_takeImage 72 = .ok (.dup, 1) := by decide +kernel
theorem dX2_takeImage_73 : decode cX2_takeImage 73 = .ok (.getfield 31, 3) := by decide +kernel
theorem dX2_takeImage_76 : decode cX2_takeImage 76 = .ok (.iconst 1, 1) := by decide +kernel
theorem dX2_takeImage_77 : decode cX2_takeImage 77 = .ok (.iadd, 1) := by decide +kernel
theorem dX2_takeImage_78 : decode cX2_takeImage 78 = .ok (.putfield 31, 3) := by decide +kernel
theorem dX2_takeImage_81 : decode cX2_takeImage 81 = .ok (.return_, 1) := by decide +kernel
theorem dX2_giveBack_0 : decode cX2_giveBack 0 = .ok (.aload_n 0, 1) := by decide +kernel
theorem dX2_giveBack_1 : decode cX2_giveBack 1 = .ok (.dup, 1) := by decide +kernel
theorem dX2_giveBack_2 : decode cX2_giveBack 2 = .ok (.getfield 31, 3) := by decide +kernel
theorem dX2_giveBack_5 : decode cX2_giveBack 5 = .ok (.iconst 1, 1) := by decide +kernel
theorem dX2_giveBack_6 : decode cX2_giveBack 6 = .ok (.isub, 1) := by decide +kernel
theorem dX2_giveBack_7 : decode cX2_giveBack 7 = .ok (.putfield 31, 3) := by decide +kernel
theorem dX2_giveBack_10 : decode cX2_giveBack 10 = .ok (.aload_n 1, 1) := by decide +kernel
theorem dX2_giveBack_11 : decode cX2_giveBack 11 = .ok (.aload_n 0, 1) := by decide +kernel
theorem dX2_giveBack_12 : decode cX2_giveBack 12 = .ok (.getfield 17, 3) := by decide +kernel
theorem dX2_giveBack_15 : decode cX2_giveBack 15 = .ok (.aload_n 0, 1) := by decide +kernel
theorem dX2_giveBack_16 : decode cX2_giveBack 16 = .ok (.getfield 31, 3) := by decide +kernel
theorem dX2_giveBack_19 : decode cX2_giveBack 19 = .ok (.invokestatic 35, 3) := by decide +kernel
theorem dX2_giveBack_22 : decode cX2_giveBack 22 = .ok (.invokevirtual 39, 3) := by decide +kernel
theorem dX2_giveBack_25 : decode cX2_giveBack 25 = .ok (.aload_n 0, 1) := by decide +kernel
theorem dX2_giveBack_26 : decode cX2_giveBack 26 = .ok (.aload_n 0, 1) := by decide +kernel
theorem dX2_giveBack_27 : decode cX2_giveBack 27 = .ok (.getfield 23, 3) := by decide +kernel
theorem dX2_giveBack_30 : decode cX2_giveBack 30 = .ok (.aload_n 0, 1) := by decide +kernel
theorem dX2_giveBack_31 : decode cX2_giveBack 31 = .ok (.getfield 31, 3) := by decide +kernel
theorem dX2_giveBack_34 : decode cX2_giveBack 34 = .ok (.iaload, 1) := by decide +kernel
theorem dX2_giveBack_35 : decode cX2_giveBack 35 = .ok (.putfield 27, 3) := by decide +kernel
theorem dX2_giveBack_38 : decode cX2_giveBack 38 = .ok (.iconst 0, 1) := by decide +kernel
theorem dX2_giveBack_39 : decode cX2_giveBack 39 = .ok (.istore_n 2, 1) := by decide +kernel
theorem dX2_giveBack_40 : decode cX2_giveBack 40 = .ok (.iload_n 2, 1) := by decide +kernel
theorem dX2_giveBack_41 : decode cX2_giveBack 41 = .ok (.aload_n 0, 1) := by decide +kernel
theorem dX2_giveBack_42 : decode cX2_giveBack 42 = .ok (.getfield 27, 3) := by decide +kernel
theorem dX2_giveBack_45 : decode cX2_giveBack 45 = .ok (.if_icmp .ge 36, 3) := by decide +kernel
theorem dX2_giveBack_48 : decode cX2_giveBack 48 = .ok (.aload_n 0, 1) := by decide +kernel
theorem dX2_giveBack_49 : decode cX2_giveBack 49 = .ok (.getfield 11, 3) := by decide +kernel
theorem dX2_giveBack_52 : decode cX2_giveBack 52 = .ok (.iload_n 2, 1) := by decide +kernel
theorem dX2_giveBack_53 : decode cX2_giveBack 53 = .ok (.invokestatic 35, 3) := by decide +kernel
theorem dX2_giveBack_56 : decode cX2_giveBack 56 = .ok (.aload_n 0, 1) := by decide +kernel
theorem dX2_giveBack_57 : decode cX2_giveBack 57 = .ok (.getfield 20, 3) := by decide +kernel
theorem dX2_giveBack_60 : decode cX2_giveBack 60 = .ok (.aload_n 0, 1) := by decide +kernel
theorem dX2_giveBack_61 : decode cX2_giveBack 61 = .ok (.getfield 31, 3) := by decide +kernel
theorem dX2_giveBack_64 : decode cX2_giveBack 64 = .ok (.bipush 16, 2) := by decide +kernel
theorem dX2_giveBack_66 : decode cX2_giveBack 66 = .ok (.imul, 1) := by decide +kernel
theorem dX2_giveBack_67 : decode cX2_giveBack 67 = .ok (.iload_n 2, 1) := by decide +kernel
theorem dX2_giveBack_68 : decode cX2_giveBack 68 = .ok (.iadd, 1) := by decide +kernel
theorem dX2_giveBack_69 : decode cX2_giveBack 69 = .ok (.invokestatic 35, 3) := by decide +kernel
theorem dX2_giveBack_72 : decode cX2_giveBack 72 = .ok (.invokevirtual 39, 3) := by decide +kernel
theorem dX2_giveBack_75 : decode cX2_giveBack 75 = .ok (.iinc 2 1, 3) := by decide +kernel
theorem dX2_giveBack_78 : decode cX2_giveBack 78 = .ok (.goto (-38), 3) := by decide +kernel
theorem dX2_giveBack_81 : decode cX2_giveBack 81 = .ok (.return_, 1) := by decide +kernel
theorem dX3_init_0 : decode cX3_init 0 = .ok (.aload_n 0, 1) := by decide +kernel
theorem dX3_init_1 : decode cX3_init 1 = .ok (.invokespecial 3, 3) := by decide +kernel
theorem dX3_init_4 : decode cX3_init 4 = .ok (.aload_n 0, 1) := by decide +kernel
theorem dX3_init_5 : decode cX3_init 5 = .ok (.bipush 8, 2) := by decide +kernel
theorem dX3_init_7 : decode cX3_init 7 = .ok (.newarray .int, 2) := by decide +kernel
theorem dX3_init_9 : decode cX3_init 9 = .ok (.putfield 9, 3) := by decide +kernel
theorem dX3_init_12 : decode cX3_init 12 = .ok (.aload_n 0, 1) := by decide +kernel
theorem dX3_init_13 : decode cX3_init 13 = .ok (.bipush 8, 2) := by decide +kernel
theorem dX3_init_15 : decode cX3_init 15 = .ok (.newarray .int, 2) := by decide +kernel
theorem dX3_init_17 : decode cX3_init 17 = .ok (.putfield 15, 3) := by decide +kernel
theorem dX3_init_20 : decode cX3_init 20 = .ok (.aload_n 0, 1) := by decide +kernel
theorem dX3_init_21 : decode cX3_init 21 = .ok (.bipush 8, 2) := by decide +kernel
theorem dX3_init_23 : decode cX3_init 23 = .ok (.newarray .int, 2) := by decide +kernel
theorem dX3_init_25 : decode cX3_init 25 = .ok (.putfield 18, 3) := by decide +kernel
theorem dX3_init_28 : decode cX3_init 28 = .ok (.aload_n 0, 1) := by decide +kernel
theorem dX3_init_29 : decode cX3_init 29 = .ok (.bipush 16, 2) := by decide +kernel
theorem dX3_init_31 : decode cX3_init 31 = .ok (.newarray .int, 2) := by decide +kernel
theorem dX3_init_33 : decode cX3_init 33 = .ok (.putfield 21, 3) := by decide +kernel
theorem dX3_init_36 : decode cX3_init 36 = .ok (.aload_n 0, 1) := by decide +kernel
theorem dX3_init_37 : decode cX3_init 37 = .ok (.bipush 16, 2) := by decide +kernel
theorem dX3_init_39 : decode cX3_init 39 = .ok (.newarray .int, 2) := by decide +kernel
theorem dX3_init_41 : decode cX3_init 41 = .ok (.putfield 24, 3) := by decide +kernel
theorem dX3_init_44 : decode cX3_init 44 = .ok (.return_, 1) := by decide +kernel
theorem dX3_parse_0 : decode cX3_parse 0 = .ok (.aload_n 0, 1) := by decide +kernel
theorem dX3_parse_1 : decode cX3_parse 1 = .ok (.iconst 0, 1) := by decide +kernel
theorem dX3_parse_2 : decode cX3_parse 2 = .ok (.putfield 27, 3) := by decide +kernel
theorem dX3_parse_5 : decode cX3_parse 5 = .ok (.aload_n 0, 1) := by decide +kernel
theorem dX3_parse_6 : decode cX3_parse 6 = .ok (.iconst 0, 1) := by decide +kernel
theorem dX3_parse_7 : decode cX3_parse 7 = .ok (.putfield 31, 3) := by decide +kernel
theorem dX3_parse_10 : decode cX3_parse 10 = .ok (.aload_n 0, 1) := by decide +kernel
theorem dX3_parse_11 : decode cX3_parse 11 = .ok (.bipush 8, 2) := by decide +kernel
theorem dX3_parse_13 : decode cX3_parse 13 = .ok (.putfield 34, 3) := by decide +kernel
theorem dX3_parse_16 : decode cX3_parse 16 = .ok (.iconst 0, 1) := by decide +kernel
theorem dX3_parse_17 : decode cX3_parse 17 = .ok (.istore_n 2, 1) := by decide +kernel
theorem dX3_parse_18 : decode cX3_parse 18 = .ok (.iload_n 2, 1) := by decide +kernel
theorem dX3_parse_19 : decode cX3_parse 19 = .ok (.bipush 60, 2) := by decide +kernel
theorem dX3_parse_21 : decode cX3_parse 21 = .ok (.if_icmp .gt 22, 3) := by decide +kernel
theorem dX3_parse_24 : decode cX3_parse 24 = .ok (.aload_n 1, 1) := by decide +kernel
theorem dX3_parse_25 : decode cX3_parse 25 = .ok (.invokevirtual 37, 3) := by decide +kernel
theorem dX3_parse_28 : decode cX3_parse 28 = .ok (.ifCond .eq 15, 3) := by decide +kernel
theorem dX3_parse_31 : decode cX3_parse 31 = .ok (.aload_n 0, 1) := by decide +kernel
theorem dX3_parse_32 : decode cX3_parse 32 = .ok (.aload_n 1, 1) := by decide +kernel
theorem dX3_parse_33 : decode cX3_parse 33 = .ok (.iload_n 2, 1) := by decide +kernel
theorem dX3_parse_34 : decode cX3_parse 34 = .ok (.invokevirtual 43, 3) := by decide +kernel
theorem dX3_parse_37 : decode cX3_parse 37 = .ok (.iinc 2 1, 3) := by decide +kernel
theorem dX3_parse_40 : decode cX3_parse 40 = .ok (.goto (-22), 3) := by decide +kernel
theorem dX3_parse_43 : decode cX3_parse 43 = .ok (.return_, 1) := by decide +kernel
theorem dX3_parseClause_0 : decode cX3_parseClause 0 = .ok (.aload_n 1, 1) := by decide +kernel
theorem dX3_parseClause_1 : decode cX3_parseClause 1 = .ok (.ldc 47, 2) := by decide +kernel
theorem dX3_parseClause_3 : decode cX3_parseClause 3 = .ok (.invokevirtual 49, 3) := by decide +kernel
theorem dX3_parseClause_6 : decode cX3_parseClause 6 = .ok (.istore_n 3, 1) := by decide +kernel
theorem dX3_parseClause_7 : decode cX3_parseClause 7 = .ok (.iload_n 3, 1) := by decide +kernel
theorem dX3_parseClause_8 : decode cX3_parseClause 8 = .ok (.iconst (-1), 1) := by decide +kernel
theorem dX3_parseClause_9 : decode cX3_parseClause 9 = .ok (.if_icmp .ne 4, 3) := by decide +kernel
theorem dX3_parseClause_12 : decode cX3_parseClause 12 = .ok (.return_, 1) := by decide +kernel
theorem dX3_parseClause_13 : decode cX3_parseClause 13 = .ok (.iload_n 2, 1) := by decide +kernel
theorem dX3_parseClause_14 : decode cX3_parseClause 14 = .ok (.bipush 60, 2) := by decide +kernel
theorem dX3_parseClause_16 : decode cX3_parseClause 16 = .ok (.if_icmp .ge 30, 3) := by decide +kernel
theorem dX3_parseClause_19 : decode cX3_parseClause 19 = .ok (.iload_n 3, 1) := by decide +kernel
theorem dX3_parseClause_20 : decode cX3_parseClause 20 = .ok (.ifCond .ne 12, 3) := by decide +kernel
theorem dX3_parseClause_23 : decode cX3_parseClause 23 = .ok (.aload_n 0, 1) := by decide +kernel
theorem dX3_parseClause_24 : decode cX3_parseClause 24 = .ok (.getfield 27, 3) := by decide +kernel
theorem dX3_parseClause_27 : decode cX3_parseClause 27 = .ok (.bipush 8, 2) := by decide +kernel
theorem dX3_parseClause_29 : decode cX3_parseClause 29 = .ok (.if_icmp .ge 17, 3) := by decide +kernel
theorem dX3_parseClause_32 : decode cX3_parseClause 32 = .ok (.iload_n 3, 1) := by decide +kernel
theorem dX3_parseClause_33 : decode cX3_parseClause 33 = .ok (.iconst 1, 1) := by decide +kernel
theorem dX3_parseClause_34 : decode cX3_parseClause 34 = .ok (.if_icmp .ne 22, 3) := by decide +kernel
theorem dX3_parseClause_37 : decode cX3_parseClause 37 = .ok (.aload_n 0, 1) := by decide +kernel
theorem dX3_parseClause_38 : decode cX3_parseClause 38 = .ok (.getfield 31, 3) := by decide +kernel
theorem dX3_parseClause_41 : decode cX3_parseClause 41 = .ok (.bipush 16, 2) := by decide +kernel
theorem dX3_parseClause_43 : decode cX3_parseClause 43 = .ok (.if_icmp .lt 13, 3) := by decide +kernel
theorem dX3_parseClause_46 : decode cX3_parseClause 46 = .ok (.aload_n 1, 1) := by decide +kernel
theorem dX3_parseClause_47 : decode cX3_parseClause 47 = .ok (.iconst 3, 1) := by decide +kernel
theorem dX3_parseClause_48 : decode cX3_parseClause 48 = .ok (.aload_n 1, 1) := by decide +kernel
theorem dX3_parseClause_49 : decode cX3_parseClause 49 = .ok (.getfield 53, 3) := by decide +kernel
theorem dX3_parseClause_52 : decode cX3_parseClause 52 = .ok (.invokevirtual 56, 3) := by decide +kernel
theorem dX3_parseClause_55 : decode cX3_parseClause 55 = .ok (.return_, 1) := by decide +kernel
theorem dX3_parseClause_56 : decode cX3_parseClause 56 = .ok (.iload_n 3, 1) := by decide +kernel
theorem dX3_parseClause_57 : decode cX3_parseClause 57 = .ok (.ifCond .ne 11, 3) := by decide +kernel
theorem dX3_parseClause_60 : decode cX3_parseClause 60 = .ok (.aload_n 0, 1) := by decide +kernel
theorem dX3_parseClause_61 : decode cX3_parseClause 61 = .ok (.aload_n 1, 1) := by decide +kernel
theorem dX3_parseClause_62 : decode cX3_parseClause 62 = .ok (.invokevirtual 60, 3) := by decide +kernel
theorem dX3_parseClause_65 : decode cX3_parseClause 65 = .ok (.goto 26, 3) := by decide +kernel
theorem dX3_parseClause_68 : decode cX3_parseClause 68 = .ok (.iload_n 3, 1) := by decide +kernel
theorem dX3_parseClause_69 : decode cX3_parseClause 69 = .ok (.iconst 1, 1) := by decide +kernel
theorem dX3_parseClause_70 : decode cX3_parseClause 70 = .ok (.if_icmp .ne 11, 3) := by decide +kernel
theorem dX3_parseClause_73 : decode cX3_parseClause 73 = .ok (.aload_n 0, 1) := by decide +kernel
theorem dX3_parseClause_74 : decode cX3_parseClause 74 = .ok (.aload_n 1, 1) := by decide +kernel
theorem dX3_parseClause_75 : decode cX3_parseClause 75 = .ok (.invokevirtual 64, 3) := by decide +kernel
theorem dX3_parseClause_78 : decode cX3_parseClause 78 = .ok (.goto 13, 3) := by decide +kernel
theorem dX3_parseClause_81 : decode cX3_parseClause 81 = .ok (.aload_n 0, 1) := by decide +kernel
theorem dX3_parseClause_82 : decode cX3_parseClause 82 = .ok (.aload_n 1, 1) := by decide +kernel
theorem dX3_parseClause_83 : decode cX3_parseClause 83 = .ok (.bipush 24, 2) := by decide +kernel
theorem dX3_parseClause_85 : decode cX3_parseClause 85 = .ok (.invokevirtual 67, 3) := by decide +kernel
theorem dX3_parseClause_88 : decode cX3_parseClause 88 = .ok (.putfield 34, 3) := by decide +kernel
theorem dX3_parseClause_91 : decode cX3_parseClause 91 = .ok (.aload_n 1, 1) := by decide +kernel
theorem dX3_parseClause_92 : decode cX3_parseClause 92 = .ok (.bipush 59, 2) := by decide +kernel
theorem dX3_parseClause_94 : decode cX3_parseClause 94 = .ok (.invokevirtual 71, 3) := by decide +kernel
theorem dX3_parseClause_97 : decode cX3_parseClause 97 = .ok (.return_, 1) := by decide +kernel
theorem dX3_parsePen_0 : decode cX3_parsePen 0 = .ok (.aload_n 0, 1) := by decide +kernel
theorem dX3_parsePen_1 : decode cX3_parsePen 1 = .ok (.getfield 9, 3) := by decide +kernel
theorem dX3_parsePen_4 : decode cX3_parsePen 4 = .ok (.aload_n 0, 1) := by decide +kernel
theorem dX3_parsePen_5 : decode cX3_parsePen 5 = .ok (.getfield 27, 3) := by decide +kernel
theorem dX3_parsePen_8 : decode cX3_parsePen 8 = .ok (.aload_n 1, 1) := by decide +kernel
theorem dX3_parsePen_9 : decode cX3_parsePen 9 = .ok (.bipush 7, 2) := by decide +kernel
theorem dX3_parsePen_11 : decode cX3_parsePen 11 = .ok (.invokevirtual 67, 3) := by decide +kernel
theorem dX3_parsePen_14 : decode cX3_parsePen 14 = .ok (.iastore, 1) := by decide +kernel
theorem dX3_parsePen_15 : decode cX3_parsePen 15 = .ok (.aload_n 0, 1) := by decide +kernel
theorem dX3_parsePen_16 : decode cX3_parsePen 16 = .ok (.getfield 15, 3) := by decide +kernel
theorem dX3_parsePen_19 : decode cX3_parsePen 19 = .ok (.aload_n 0, 1) := by decide +kernel
theorem dX3_parsePen_20 : decode cX3_parsePen 20 = .ok (.getfield 27, 3) := by decide +kernel
theorem dX3_parsePen_23 : decode cX3_parsePen 23 = .ok (.aload_n 1, 1) := by decide +kernel
theorem dX3_parsePen_24 : decode cX3_parsePen 24 = .ok (.bipush 99, 2) := by decide +kernel
theorem dX3_parsePen_26 : decode cX3_parsePen 26 = .ok (.invokevirtual 67, 3) := by decide +kernel
theorem dX3_parsePen_29 : decode cX3_parsePen 29 = .ok (.iastore, 1) := by decide +kernel
theorem dX3_parsePen_30 : decode cX3_parsePen 30 = .ok (.aload_n 0, 1) := by decide +kernel
theorem dX3_parsePen_31 : decode cX3_parsePen 31 = .ok (.getfield 18, 3) := by decide +kernel
theorem dX3_parsePen_34 : decode cX3_parsePen 34 = .ok (.aload_n 0, 1) := by decide +kernel
theorem dX3_parsePen_35 : decode cX3_parsePen 35 = .ok (.getfield 27, 3) := by decide +kernel
theorem dX3_parsePen_38 : decode cX3_parsePen 38 = .ok (.aload_n 1, 1) := by decide +kernel
theorem dX3_parsePen_39 : decode cX3_parsePen 39 = .ok (.bipush 99, 2) := by decide +kernel
theorem dX3_parsePen_41 : decode cX3_parsePen 41 = .ok (.invokevirtual 67, 3) := by decide +kernel
theorem dX3_parsePen_44 : decode cX3_parsePen 44 = .ok (.iastore, 1) := by decide +kernel
theorem dX3_parsePen_45 : decode cX3_parsePen 45 = .ok (.aload_n 0, 1) := by decide +kernel
theorem dX3_parsePen_46 : decode cX3_parsePen 46 = .ok (.dup, 1) := by decide +kernel
theorem dX3_parsePen_47 : decode cX3_parsePen 47 = .ok (.getfield 27, 3) := by decide +kernel
theorem dX3_parsePen_50 : decode cX3_parsePen 50 = .ok (.iconst 1, 1) := by decide +kernel
theorem dX3_parsePen_51 : decode cX3_parsePen 51 = .ok (.iadd, 1) := by decide +kernel
theorem dX3_parsePen_52 : decode cX3_parsePen 52 = .ok (.putfield 27, 3) := by decide +kernel
theorem dX3_parsePen_55 : decode cX3_parsePen 55 = .ok (.return_, 1) := by decide +kernel
theorem dX3_parseWire_0 : decode cX3_parseWire 0 = .ok (.aload_n 0, 1) := by decide +kernel
theorem dX3_parseWire_1 : decode cX3_parseWire 1 = .ok (.getfield 21, 3) := by decide +kernel
theorem dX3_parseWire_4 : decode cX3_parseWire 4 = .ok (.aload_n 0, 1) := by decide +kernel
theorem dX3_parseWire_5 : decode cX3_parseWire 5 = .ok (.getfield 31, 3) := by decide +kernel
theorem dX3_parseWire_8 : decode cX3_parseWire 8 = .ok (.aload_n 1, 1) := by decide +kernel
theorem dX3_parseWire_9 : decode cX3_parseWire 9 = .ok (.aload_n 0, 1) := by decide +kernel
theorem dX3_parseWire_10 : decode cX3_parseWire 10 = .ok (.getfield 27, 3) := by decide +kernel
theorem dX3_parseWire_13 : decode cX3_parseWire 13 = .ok (.iconst 1, 1) := by decide +kernel
theorem dX3_parseWire_14 : decode cX3_parseWire 14 = .ok (.isub, 1) := by decide +kernel
theorem dX3_parseWire_15 : decode cX3_parseWire 15 = .ok (.invokevirtual 67, 3) := by decide +kernel
theorem dX3_parseWire_18 : decode cX3_parseWire 18 = .ok (.iastore, 1) := by decide +kernel
theorem dX3_parseWire_19 : decode cX3_parseWire 19 = .ok (.aload_n 0, 1) := by decide +kernel
theorem dX3_parseWire_20 : decode cX3_parseWire 20 = .ok (.getfield 24, 3) := by decide +kernel
theorem dX3_parseWire_23 : decode cX3_parseWire 23 = .ok (.aload_n 0, 1) := by decide +kernel
theorem dX3_parseWire_24 : decode cX3_parseWire 24 = .ok (.getfield 31, 3) := by decide +kernel
theorem dX3_parseWire_27 : decode cX3_parseWire 27 = .ok (.aload_n 1, 1) := by decide +kernel
theorem dX3_parseWire_28 : decode cX3_parseWire 28 = .ok (.aload_n 0, 1) := by decide +kernel
theorem dX3_parseWire_29 : decode cX3_parseWire 29 = .ok (.getfield 27, 3) := by decide +kernel
theorem dX3_parseWire_32 : decode cX3_parseWire 32 = .ok (.iconst 1, 1) := by decide +kernel
theorem dX3_parseWire_33 : decode cX3_parseWire 33 = .ok (.isub, 1) := by decide +kernel
theorem dX3_parseWire_34 : decode cX3_parseWire 34 = .ok (.invokevirtual 67, 3) := by decide +kernel
theorem dX3_parseWire_37 : decode cX3_parseWire 37 = .ok (.iastore, 1) := by decide +kernel
theorem dX3_parseWire_38 : decode cX3_parseWire 38 = .ok (.aload_n 0, 1) := by decide +kernel
theorem dX3_parseWire_39 : decode cX3_parseWire 39 = .ok (.getfield 24, 3) := by decide +kernel
theorem dX3_parseWire_42 : decode cX3_parseWire 42 = .ok (.aload_n 0, 1) := by decide +kernel
theorem dX3_parseWire_43 : decode cX3_parseWire 43 = .ok (.getfield 31, 3) := by decide +kernel
theorem dX3_parseWire_46 : decode cX3_parseWire 46 = .ok (.iaload, 1) := by decide +kernel
theorem dX3_parseWire_47 : decode cX3_parseWire 47 = .ok (.aload_n 0, 1) := by decide +kernel
theorem dX3_parseWire_48 : decode cX3_parseWire 48 = .ok (.getfield 21, 3) := by decide +kernel
theorem dX3_parseWire_51 : decode cX3_parseWire 51 = .ok (.aload_n 0, 1) := by decide +kernel
theorem dX3_parseWire_52 : decode cX3_parseWire 52 = .ok (.getfield 31, 3) := by decide +kernel
theorem dX3_parseWire_55 : decode cX3_parseWire 55 = .ok (.iaload, 1) := by decide +kernel
theorem dX3_parseWire_56 : decode cX3_parseWire 56 = .ok (.if_icmp .ne 12, 3) := by decide +kernel
theorem dX3_parseWire_59 : decode cX3_parseWire 59 = .ok (.aload_n 1, 1) := by decide +kernel
theorem dX3_parseWire_60 : decode cX3_parseWire 60 = .ok (.iconst 2, 1) := by decide +kernel
theorem dX3_parseWire_61 : decode cX3_parseWire 61 = .ok (.aload_n 1, 1) := by decide +kernel
theorem dX3_parseWire_62 : decode cX3_parseWire 62 = .ok (.getfield 53, 3) := by decide +kernel
theorem dX3_parseWire_65 : decode cX3_parseWire 65 = .ok (.invokevirtual 56, 3) := by decide +kernel
theorem dX3_parseWire_68 : decode cX3_parseWire 68 = .ok (.aload_n 0, 1) := by decide +kernel
theorem dX3_parseWire_69 : decode cX3_parseWire 69 = .ok (.dup, 1) := by decide +kernel
theorem dX3_parseWire_70 : decode cX3_parseWire 70 = .ok (.getfield 31, 3) := by decide +kernel
theorem dX3_parseWire_73 : decode cX3_parseWire 73 = .ok (.iconst 1, 1) := by decide +kernel
theorem dX3_parseWire_74 : decode cX3_parseWire 74 = .ok (.iadd, 1) := by decide +kernel
theorem dX3_parseWire_75 : decode cX3_parseWire 75 = .ok (.putfield 31, 3) := by decide +kernel
theorem dX3_parseWire_78 : decode cX3_parseWire 78 = .ok (.return_, 1) := by decide +kernel
theorem dX3_isHeardBy_0 : decode cX3_isHeardBy 0 = .ok (.aload_n 0, 1) := by decide +kernel
theorem dX3_isHeardBy_1 : decode cX3_isHeardBy 1 = .ok (.iload_n 1, 1) := by decide +kernel
theorem dX3_isHeardBy_2 : decode cX3_isHeardBy 2 = .ok (.invokevirtual 75, 3) := by decide +kernel
theorem dX3_isHeardBy_5 : decode cX3_isHeardBy 5 = .ok (.iload_n 2, 1) := by decide +kernel
theorem dX3_isHeardBy_6 : decode cX3_isHeardBy 6 = .ok (.ishr, 1) := by decide +kernel
theorem dX3_isHeardBy_7 : decode cX3_isHeardBy 7 = .ok (.iconst 1, 1) := by decide +kernel
theorem dX3_isHeardBy_8 : decode cX3_isHeardBy 8 = .ok (.iand, 1) := by decide +kernel
theorem dX3_isHeardBy_9 : decode cX3_isHeardBy 9 = .ok (.ifCond .eq 7, 3) := by decide +kernel
theorem dX3_isHeardBy_12 : decode cX3_isHeardBy 12 = .ok (.iconst 1, 1) := by decide +kernel
theorem dX3_isHeardBy_13 : decode cX3_isHeardBy 13 = .ok (.goto 4, 3) := by decide +kernel
theorem dX3_isHeardBy_16 : decode cX3_isHeardBy 16 = .ok (.iconst 0, 1) := by decide +kernel
theorem dX3_isHeardBy_17 : decode cX3_isHeardBy 17 = .ok (.ireturn, 1) := by decide +kernel
theorem dX3_hearersOf_0 : decode cX3_hearersOf 0 = .ok (.iconst 0, 1) := by decide +kernel
theorem dX3_hearersOf_1 : decode cX3_hearersOf 1 = .ok (.istore_n 2, 1) := by decide +kernel
theorem dX3_hearersOf_2 : decode cX3_hearersOf 2 = .ok (.iconst 0, 1) := by decide +kernel
theorem dX3_hearersOf_3 : decode cX3_hearersOf 3 = .ok (.istore_n 3, 1) := by decide +kernel
theorem dX3_hearersOf_4 : decode cX3_hearersOf 4 = .ok (.iload_n 3, 1) := by decide +kernel
theorem dX3_hearersOf_5 : decode cX3_hearersOf 5 = .ok (.aload_n 0, 1) := by decide +kernel
theorem dX3_hearersOf_6 : decode cX3_hearersOf 6 = .ok (.getfield 31, 3) := by decide +kernel
theorem dX3_hearersOf_9 : decode cX3_hearersOf 9 = .ok (.if_icmp .ge 30, 3) := by decide +kernel
theorem dX3_hearersOf_12 : decode cX3_hearersOf 12 = .ok (.aload_n 0, 1) := by decide +kernel
theorem dX3_hearersOf_13 : decode cX3_hearersOf 13 = .ok (.getfield 21, 3) := by decide +kernel
theorem dX3_hearersOf_16 : decode cX3_hearersOf 16 = .ok (.iload_n 3, 1) := by decide +kernel
theorem dX3_hearersOf_17 : decode cX3_hearersOf 17 = .ok (.iaload, 1) := by decide +kernel
theorem dX3_hearersOf_18 : decode cX3_hearersOf 18 = .ok (.iload_n 1, 1) := by decide +kernel
theorem dX3_hearersOf_19 : decode cX3_hearersOf 19 = .ok (.if_icmp .ne 14, 3) := by decide +kernel
theorem dX3_hearersOf_22 : decode cX3_hearersOf 22 = .ok (.iload_n 2, 1) := by decide +kernel
theorem dX3_hearersOf_23 : decode cX3_hearersOf 23 = .ok (.iconst 1, 1) := by decide +kernel
theorem dX3_hearersOf_24 : decode cX3_hearersOf 24 = .ok (.aload_n 0, 1) := by decide +kernel
theorem dX3_hearersOf_25 : decode cX3_hearersOf 25 = .ok (.getfield 24, 3) := by decide +kernel
theorem dX3_hearersOf_28 : decode cX3_hearersOf 28 = .ok (.iload_n 3, 1) := by decide +kernel
theorem dX3_hearersOf_29 : decode cX3_hearersOf 29 = .ok (.iaload, 1) := by decide +kernel
theorem dX3_hearersOf_30 : decode cX3_hearersOf 30 = .ok (.ishl, 1) := by decide +kernel
theorem dX3_hearersOf_31 : decode cX3_hearersOf 31 = .ok (.ior, 1) := by decide +kernel
theorem dX3_hearersOf_32 : decode cX3_hearersOf 32 = .ok (.istore_n 2, 1) := by decide +kernel
theorem dX3_hearersOf_33 : decode cX3_hearersOf 33 = .ok (.iinc 3 1, 3) := by decide +kernel
theorem dX3_hearersOf_36 : decode cX3_hearersOf 36 = .ok (.goto (-32), 3) := by decide +kernel
theorem dX3_hearersOf_39 : decode cX3_hearersOf 39 = .ok (.iload_n 2, 1) := by decide +kernel
theorem dX3_hearersOf_40 : decode cX3_hearersOf 40 = .ok (.ireturn, 1) := by decide +kernel
theorem dX3_heardBy_0 : decode cX3_heardBy 0 = .ok (.iconst 0, 1) := by decide +kernel
theorem dX3_heardBy_1 : decode cX3_heardBy 1 = .ok (.istore_n 2, 1) := by decide +kernel
theorem dX3_heardBy_2 : decode cX3_heardBy 2 = .ok (.iconst 0, 1) := by decide +kernel
theorem dX3_heardBy_3 : decode cX3_heardBy 3 = .ok (.istore_n 3, 1) := by decide +kernel
theorem dX3_heardBy_4 : decode cX3_heardBy 4 = .ok (.iload_n 3, 1) := by decide +kernel
theorem dX3_heardBy_5 : decode cX3_heardBy 5 = .ok (.aload_n 0, 1) := by decide +kernel
theorem dX3_heardBy_6 : decode cX3_heardBy 6 = .ok (.getfield 31, 3) := by decide +kernel
theorem dX3_heardBy_9 : decode cX3_heardBy 9 = .ok (.if_icmp .ge 30, 3) := by decide +kernel
theorem dX3_heardBy_12 : decode cX3_heardBy 12 = .ok (.aload_n 0, 1) := by decide +kernel
theorem dX3_heardBy_13 : decode cX3_heardBy 13 = .ok (.getfield 24, 3) := by decide +kernel
theorem dX3_heardBy_16 : decode cX3_heardBy 16 = .ok (.iload_n 3, 1) := by decide +kernel
theorem dX3_heardBy_17 : decode cX3_heardBy 17 = .ok (.iaload, 1) := by decide +kernel
theorem dX3_heardBy_18 : decode cX3_heardBy 18 = .ok (.iload_n 1, 1) := by decide +kernel
theorem dX3_heardBy_19 : decode cX3_heardBy 19 = .ok (.if_icmp .ne 14, 3) := by decide +kernel
theorem dX3_heardBy_22 : decode cX3_heardBy 22 = .ok (.iload_n 2, 1) := by decide +kernel
theorem dX3_heardBy_23 : decode cX3_heardBy 23 = .ok (.iconst 1, 1) := by decide +kernel
theorem dX3_heardBy_24 : decode cX3_heardBy 24 = .ok (.aload_n 0, 1) := by decide +kernel
theorem dX3_heardBy_25 : decode cX3_heardBy 25 = .ok (.getfield 21, 3) := by decide +kernel
theorem dX3_heardBy_28 : decode cX3_heardBy 28 = .ok (.iload_n 3, 1) := by decide +kernel
theorem dX3_heardBy_29 : decode cX3_heardBy 29 = .ok (.iaload, 1) := by decide +kernel
theorem dX3_heardBy_30 : decode cX3_heardBy 30 = .ok (.ishl, 1) := by decide +kernel
theorem dX3_heardBy_31 : decode cX3_heardBy 31 = .ok (.ior, 1) := by decide +kernel
theorem dX3_heardBy_32 : decode cX3_heardBy 32 = .ok (.istore_n 2, 1) := by decide +kernel
theorem dX3_heardBy_33 : decode cX3_heardBy 33 = .ok (.iinc 3 1, 3) := by decide +kernel
theorem dX3_heardBy_36 : decode cX3_heardBy 36 = .ok (.goto (-32), 3) := by decide +kernel
theorem dX3_heardBy_39 : decode cX3_heardBy 39 = .ok (.iload_n 2, 1) := by decide +kernel
theorem dX3_heardBy_40 : decode cX3_heardBy 40 = .ok (.ireturn, 1) := by decide +kernel
theorem dX4_init_0 : decode cX4_init 0 = .ok (.aload_n 0, 1) := by decide +kernel
theorem dX4_init_1 : decode cX4_init 1 = .ok (.invokespecial 3, 3) := by decide +kernel
theorem dX4_init_4 : decode cX4_init 4 = .ok (.aload_n 0, 1) := by decide +kernel
theorem dX4_init_5 : decode cX4_init 5 = .ok (.bipush 8, 2) := by decide +kernel
theorem dX4_init_7 : decode cX4_init 7 = .ok (.newarray .int, 2) := by decide +kernel
theorem dX4_init_9 : decode cX4_init 9 = .ok (.putfield 11, 3) := by decide +kernel
theorem dX4_init_12 : decode cX4_init 12 = .ok (.aload_n 0, 1) := by decide +kernel
theorem dX4_init_13 : decode cX4_init 13 = .ok (.sipush 150, 3) := by decide +kernel
theorem dX4_init_16 : decode cX4_init 16 = .ok (.newarray .int, 2) := by decide +kernel
theorem dX4_init_18 : decode cX4_init 18 = .ok (.putfield 15, 3) := by decide +kernel
theorem dX4_init_21 : decode cX4_init 21 = .ok (.aload_n 0, 1) := by decide +kernel
theorem dX4_init_22 : decode cX4_init 22 = .ok (.sipush 150, 3) := by decide +kernel
theorem dX4_init_25 : decode cX4_init 25 = .ok (.newarray .int, 2) := by decide +kernel
theorem dX4_init_27 : decode cX4_init 27 = .ok (.putfield 18, 3) := by decide +kernel
theorem dX4_init_30 : decode cX4_init 30 = .ok (.aload_n 0, 1) := by decide +kernel
theorem dX4_init_31 : decode cX4_init 31 = .ok (.sipush 150, 3) := by decide +kernel
theorem dX4_init_34 : decode cX4_init 34 = .ok (.newarray .int, 2) := by decide +kernel
theorem dX4_init_36 : decode cX4_init 36 = .ok (.putfield 21, 3) := by decide +kernel
theorem dX4_init_39 : decode cX4_init 39 = .ok (.aload_n 0, 1) := by decide +kernel
theorem dX4_init_40 : decode cX4_init 40 = .ok (.getfield 15, 3) := by decide +kernel
theorem dX4_init_43 : decode cX4_init 43 = .ok (.iconst 0, 1) := by decide +kernel
theorem dX4_init_44 : decode cX4_init 44 = .ok (.iconst 2, 1) := by decide +kernel
theorem dX4_init_45 : decode cX4_init 45 = .ok (.iastore, 1) := by decide +kernel
theorem dX4_init_46 : decode cX4_init 46 = .ok (.aload_n 0, 1) := by decide +kernel
theorem dX4_init_47 : decode cX4_init 47 = .ok (.iconst 1, 1) := by decide +kernel
theorem dX4_init_48 : decode cX4_init 48 = .ok (.putfield 24, 3) := by decide +kernel
theorem dX4_init_51 : decode cX4_init 51 = .ok (.return_, 1) := by decide +kernel
theorem dX4_clear_0 : decode cX4_clear 0 = .ok (.aload_n 0, 1) := by decide +kernel
theorem dX4_clear_1 : decode cX4_clear 1 = .ok (.iconst 0, 1) := by decide +kernel
theorem dX4_clear_2 : decode cX4_clear 2 = .ok (.putfield 24, 3) := by decide +kernel
theorem dX4_clear_5 : decode cX4_clear 5 = .ok (.aload_n 0, 1) := by decide +kernel
theorem dX4_clear_6 : decode cX4_clear 6 = .ok (.iconst 2, 1) := by decide +kernel
theorem dX4_clear_7 : decode cX4_clear 7 = .ok (.iconst 0, 1) := by decide +kernel
theorem dX4_clear_8 : decode cX4_clear 8 = .ok (.invokevirtual 28, 3) := by decide +kernel
theorem dX4_clear_11 : decode cX4_clear 11 = .ok (.return_, 1) := by decide +kernel
theorem dX4_parse_0 : decode cX4_parse 0 = .ok (.aload_n 0, 1) := by decide +kernel
theorem dX4_parse_1 : decode cX4_parse 1 = .ok (.iconst 0, 1) := by decide +kernel
theorem dX4_parse_2 : decode cX4_parse 2 = .ok (.putfield 24, 3) := by decide +kernel
theorem dX4_parse_5 : decode cX4_parse 5 = .ok (.aload_n 0, 1) := by decide +kernel
theorem dX4_parse_6 : decode cX4_parse 6 = .ok (.aload_n 1, 1) := by decide +kernel
theorem dX4_parse_7 : decode cX4_parse 7 = .ok (.iconst 0, 1) := by decide +kernel
theorem dX4_parse_8 : decode cX4_parse 8 = .ok (.invokevirtual 32, 3) := by decide +kernel
theorem dX4_parse_11 : decode cX4_parse 11 = .ok (.aload_n 1, 1) := by decide +kernel
theorem dX4_parse_12 : decode cX4_parse 12 = .ok (.invokevirtual 36, 3) := by decide +kernel
theorem dX4_parse_15 : decode cX4_parse 15 = .ok (.return_, 1) := by decide +kernel
theorem dX4_put_0 : decode cX4_put 0 = .ok (.aload_n 0, 1) := by decide +kernel
theorem dX4_put_1 : decode cX4_put 1 = .ok (.getfield 24, 3) := by decide +kernel
theorem dX4_put_4 : decode cX4_put 4 = .ok (.sipush 150, 3) := by decide +kernel
theorem dX4_put_7 : decode cX4_put 7 = .ok (.if_icmp .ge 33, 3) := by decide +kernel
theorem dX4_put_10 : decode cX4_put 10 = .ok (.aload_n 0, 1) := by decide +kernel
theorem dX4_put_11 : decode cX4_put 11 = .ok (.getfield 15, 3) := by decide +kernel
theorem dX4_put_14 : decode cX4_put 14 = .ok (.aload_n 0, 1) := by decide +kernel
theorem dX4_put_15 : decode cX4_put 15 = .ok (.getfield 24, 3) := by decide +kernel
theorem dX4_put_18 : decode cX4_put 18 = .ok (.iload_n 1, 1) := by decide +kernel
theorem dX4_put_19 : decode cX4_put 19 = .ok (.iastore, 1) := by decide +kernel
theorem dX4_put_20 : decode cX4_put 20 = .ok (.aload_n 0, 1) := by decide +kernel
theorem dX4_put_21 : decode cX4_put 21 = .ok (.getfield 18, 3) := by decide +kernel
theorem dX4_put_24 : decode cX4_put 24 = .ok (.aload_n 0, 1) := by decide +kernel
theorem dX4_put_25 : decode cX4_put 25 = .ok (.getfield 24, 3) := by decide +kernel
theorem dX4_put_28 : decode cX4_put 28 = .ok (.iload_n 2, 1) := by decide +kernel
theorem dX4_put_29 : decode cX4_put 29 = .ok (.iastore, 1) := by decide +kernel
theorem dX4_put_30 : decode cX4_put 30 = .ok (.aload_n 0, 1) := by decide +kernel
theorem dX4_put_31 : decode cX4_put 31 = .ok (.dup, 1) := by decide +kernel
theorem dX4_put_32 : decode cX4_put 32 = .ok (.getfield 24, 3) := by decide +kernel
theorem dX4_put_35 : decode cX4_put 35 = .ok (.iconst 1, 1) := by decide +kernel
theorem dX4_put_36 : decode cX4_put 36 = .ok (.iadd, 1) := by decide +kernel
theorem dX4_put_37 : decode cX4_put 37 = .ok (.putfield 24, 3) := by decide +kernel
theorem dX4_put_40 : decode cX4_put 40 = .ok (.return_, 1) := by decide +kernel
theorem dX4_parseSum_0 : decode cX4_parseSum 0 = .ok (.aload_n 0, 1) := by decide +kernel
theorem dX4_parseSum_1 : decode cX4_parseSum 1 = .ok (.aload_n 1, 1) := by decide +kernel
theorem dX4_parseSum_2 : decode cX4_parseSum 2 = .ok (.iload_n 2, 1) := by decide +kernel
theorem dX4_parseSum_3 : decode cX4_parseSum 3 = .ok (.invokevirtual 41, 3) := by decide +kernel
theorem dX4_parseSum_6 : decode cX4_parseSum 6 = .ok (.iconst 0, 1) := by decide +kernel
theorem dX4_parseSum_7 : decode cX4_parseSum 7 = .ok (.istore_n 3, 1) := by decide +kernel
theorem dX4_parseSum_8 : decode cX4_parseSum 8 = .ok (.iload_n 3, 1) := by decide +kernel
theorem dX4_parseSum_9 : decode cX4_parseSum 9 = .ok (.sipush 150, 3) := by decide +kernel
theorem dX4_parseSum_12 : decode cX4_parseSum 12 = .ok (.if_icmp .ge 40, 3) := by decide +kernel
theorem dX4_parseSum_15 : decode cX4_parseSum 15 = .ok (.aload_n 1, 1) := by decide +kernel
theorem dX4_parseSum_16 : decode cX4_parseSum 16 = .ok (.ldc 44, 2) := by decide +kernel
theorem dX4_parseSum_18 : decode cX4_parseSum 18 = .ok (.invokevirtual 46, 3) := by decide +kernel
theorem dX4_parseSum_21 : decode cX4_parseSum 21 = .ok (.istore 4, 2) := by decide +kernel
theorem dX4_parseSum_23 : decode cX4_parseSum 23 = .ok (.iload 4, 2) := by decide +kernel
theorem dX4_parseSum_25 : decode cX4_parseSum 25 = .ok (.iconst (-1), 1) := by decide +kernel
theorem dX4_parseSum_26 : decode cX4_parseSum 26 = .ok (.if_icmp .ne 4, 3) := by decide +kernel
theorem dX4_parseSum_29 : decode cX4_parseSum 29 = .ok (.return_, 1) := by decide +kernel
theorem dX4_parseSum_30 : decode cX4_parseSum 30 = .ok (.aload_n 0, 1) := by decide +kernel
theorem dX4_parseSum_31 : decode cX4_parseSum 31 = .ok (.aload_n 1, 1) := by decide +kernel
theorem dX4_parseSum_32 : decode cX4_parseSum 32 = .ok (.iload_n 2, 1) := by decide +kernel
theorem dX4_parseSum_33 : decode cX4_parseSum 33 = .ok (.invokevirtual 41, 3) := by decide +kernel
theorem dX4_parseSum_36 : decode cX4_parseSum 36 = .ok (.aload_n 0, 1) := by decide +kernel
theorem dX4_parseSum_37 : decode cX4_parseSum 37 = .ok (.bipush 10, 2) := by decide +kernel
theorem dX4_parseSum_39 : decode cX4_parseSum 39 = .ok (.iload 4, 2) := by decide +kernel
theorem dX4_parseSum_41 : decode cX4_parseSum 41 = .ok (.iadd, 1) := by decide +kernel
theorem dX4_parseSum_42 : decode cX4_parseSum 42 = .ok (.iconst 0, 1) := by decide +kernel
theorem dX4_parseSum_43 : decode cX4_parseSum 43 = .ok (.invokevirtual 28, 3) := by decide +kernel
theorem dX4_parseSum_46 : decode cX4_parseSum 46 = .ok (.iinc 3 1, 3) := by decide +kernel
theorem dX4_parseSum_49 : decode cX4_parseSum 49 = .ok (.goto (-41), 3) := by decide +kernel
theorem dX4_parseSum_52 : decode cX4_parseSum 52 = .ok (.return_, 1) := by decide +kernel
theorem dX4_parseProduct_0 : decode cX4_parseProduct 0 = .ok (.aload_n 0, 1) := by decide +kernel
theorem dX4_parseProduct_1 : decode cX4_parseProduct 1 = .ok (.aload_n 1, 1) := by decide +kernel
theorem dX4_parseProduct_2 : decode cX4_parseProduct 2 = .ok (.iload_n 2, 1) := by decide +kernel
theorem dX4_parseProduct_3 : decode cX4_parseProduct 3 = .ok (.invokevirtual 50, 3) := by decide +kernel
theorem dX4_parseProduct_6 : decode cX4_parseProduct 6 = .ok (.iconst 0, 1) := by decide +kernel
theorem dX4_parseProduct_7 : decode cX4_parseProduct 7 = .ok (.istore_n 3, 1) := by decide +kernel
theorem dX4_parseProduct_8 : decode cX4_parseProduct 8 = .ok (.iload_n 3, 1) := by decide +kernel
theorem dX4_parseProduct_9 : decode cX4_parseProduct 9 = .ok (.sipush 150, 3) := by decide +kernel
theorem dX4_parseProduct_12 : decode cX4_parseProduct 12 = .ok (.if_icmp .ge 40, 3) := by decide +kernel
theorem dX4_parseProduct_15 : decode cX4_parseProduct 15 = .ok (.aload_n 1, 1) := by decide +kernel
theorem dX4_parseProduct_16 : decode cX4_parseProduct 16 = .ok (.ldc 53, 2) := by decide +kernel
theorem dX4_parseProduct_18 : decode cX4_parseProduct 18 = .ok (.invokevirtual 46, 3) := by decide +kernel
theorem dX4_parseProduct_21 : decode cX4_parseProduct 21 = .ok (.istore 4, 2) := by decide +kernel
theorem dX4_parseProduct_23 : decode cX4_parseProduct 23 = .ok (.iload 4, 2) := by decide +kernel
theorem dX4_parseProduct_25 : decode cX4_parseProduct 25 = .ok (.iconst (-1), 1) := by decide +kernel
theorem dX4_parseProduct_26 : decode cX4_parseProduct 26 = .ok (.if_icmp .ne 4, 3) := by decide +kernel
theorem dX4_parseProduct_29 : decode cX4_parseProduct 29 = .ok (.return_, 1) := by decide +kernel
theorem dX4_parseProduct_30 : decode cX4_parseProduct 30 = .ok (.aload_n 0, 1) := by decide +kernel
theorem dX4_parseProduct_31 : decode cX4_parseProduct 31 = .ok (.aload_n 1, 1) := by decide +kernel
theorem dX4_parseProduct_32 : decode cX4_parseProduct 32 = .ok (.iload_n 2, 1) := by decide +kernel
theorem dX4_parseProduct_33 : decode cX4_parseProduct 33 = .ok (.invokevirtual 50, 3) := by decide +kernel
theorem dX4_parseProduct_36 : decode cX4_parseProduct 36 = .ok (.aload_n 0, 1) := by decide +kernel
theorem dX4_parseProduct_37 : decode cX4_parseProduct 37 = .ok (.bipush 12, 2) := by decide +kernel
theorem dX4_parseProduct_39 : decode cX4_parseProduct 39 = .ok (.iload 4, 2) := by decide +kernel
theorem dX4_parseProduct_41 : decode cX4_parseProduct 41 = .ok (.iadd, 1) := by decide +kernel
theorem dX4_parseProduct_42 : decode cX4_parseProduct 42 = .ok (.iconst 0, 1) := by decide +kernel
theorem dX4_parseProduct_43 : decode cX4_parseProduct 43 = .ok (.invokevirtual 28, 3) := by decide +kernel
theorem dX4_parseProduct_46 : decode cX4_parseProduct 46 = .ok (.iinc 3 1, 3) := by decide +kernel
theorem dX4_parseProduct_49 : decode cX4_parseProduct 49 = .ok (.goto (-41), 3) := by decide +kernel
theorem dX4_parseProduct_52 : decode cX4_parseProduct 52 = .ok (.return_, 1) := by decide +kernel
theorem dX4_parseUnit_0 : decode cX4_parseUnit 0 = .ok (.aload_n 1, 1) := by decide +kernel
theorem dX4_parseUnit_1 : decode cX4_parseUnit 1 = .ok (.invokevirtual 55, 3) := by decide +kernel
theorem dX4_parseUnit_4 : decode cX4_parseUnit 4 = .ok (.ifCond .eq 19, 3) := by decide +kernel
theorem dX4_parseUnit_7 : decode cX4_parseUnit 7 = .ok (.aload_n 0, 1) := by decide +kernel
theorem dX4_parseUnit_8 : decode cX4_parseUnit 8 = .ok (.bipush 15, 2) := by decide +kernel
theorem dX4_parseUnit_10 : decode cX4_parseUnit 10 = .ok (.aload_n 1, 1) := by decide +kernel
theorem dX4_parseUnit_11 : decode cX4_parseUnit 11 = .ok (.sipush 999, 3) := by decide +kernel
theorem dX4_parseUnit_14 : decode cX4_parseUnit 14 = .ok (.invokevirtual 59, 3) := by decide +kernel
theorem dX4_parseUnit_17 : decode cX4_parseUnit 17 = .ok (.invokevirtual 28, 3) := by decide +kernel
theorem dX4_parseUnit_20 : decode cX4_parseUnit 20 = .ok (.goto 56, 3) := by decide +kernel
theorem dX4_parseUnit_23 : decode cX4_parseUnit 23 = .ok (.aload_n 1, 1) := by decide +kernel
theorem dX4_parseUnit_24 : decode cX4_parseUnit 24 = .ok (.bipush 40, 2) := by decide +kernel
theorem dX4_parseUnit_26 : decode cX4_parseUnit 26 = .ok (.invokevirtual 63, 3) := by decide +kernel
theorem dX4_parseUnit_29 : decode cX4_parseUnit 29 = .ok (.ifCond .eq 12, 3) := by decide +kernel
theorem dX4_parseUnit_32 : decode cX4_parseUnit 32 = .ok (.aload_n 0, 1) := by decide +kernel
theorem dX4_parseUnit_33 : decode cX4_parseUnit 33 = .ok (.aload_n 1, 1) := by decide +kernel
theorem dX4_parseUnit_34 : decode cX4_parseUnit 34 = .ok (.iload_n 2, 1) := by decide +kernel
theorem dX4_parseUnit_35 : decode cX4_parseUnit 35 = .ok (.invokevirtual 67, 3) := by decide +kernel
theorem dX4_parseUnit_38 : decode cX4_parseUnit 38 = .ok (.goto 38, 3) := by decide +kernel
theorem dX4_parseUnit_41 : decode cX4_parseUnit 41 = .ok (.aload_n 1, 1) := by decide +kernel
theorem dX4_parseUnit_42 : decode cX4_parseUnit 42 = .ok (.ldc 70, 2) := by decide +kernel
theorem dX4_parseUnit_44 : decode cX4_parseUnit 44 = .ok (.invokevirtual 72, 3) := by decide +kernel
theorem dX4_parseUnit_47 : decode cX4_parseUnit 47 = .ok (.istore_n 3, 1) := by decide +kernel
theorem dX4_parseUnit_48 : decode cX4_parseUnit 48 = .ok (.iload_n 3, 1) := by decide +kernel
theorem dX4_parseUnit_49 : decode cX4_parseUnit 49 = .ok (.bipush 8, 2) := by decide +kernel
theorem dX4_parseUnit_51 : decode cX4_parseUnit 51 = .ok (.if_icmp .eq 9, 3) := by decide +kernel
theorem dX4_parseUnit_54 : decode cX4_parseUnit 54 = .ok (.iload_n 3, 1) := by decide +kernel
theorem dX4_parseUnit_55 : decode cX4_parseUnit 55 = .ok (.bipush 9, 2) := by decide +kernel
theorem dX4_parseUnit_57 : decode cX4_parseUnit 57 = .ok (.if_icmp .ne 13, 3) := by decide +kernel
theorem dX4_parseUnit_60 : decode cX4_parseUnit 60 = .ok (.aload_n 0, 1) := by decide +kernel
theorem dX4_parseUnit_61 : decode cX4_parseUnit 61 = .ok (.aload_n 1, 1) := by decide +kernel
theorem dX4_parseUnit_62 : decode cX4_parseUnit 62 = .ok (.iload_n 3, 1) := by decide +kernel
theorem dX4_parseUnit_63 : decode cX4_parseUnit 63 = .ok (.iload_n 2, 1) := by decide +kernel
theorem dX4_parseUnit_64 : decode cX4_parseUnit 64 = .ok (.invokevirtual 75, 3) := by decide +kernel
theorem dX4_parseUnit_67 : decode cX4_parseUnit 67 = .ok (.goto 9, 3) := by decide +kernel
theorem dX4_parseUnit_70 : decode cX4_parseUnit 70 = .ok (.aload_n 0, 1) := by decide +kernel
theorem dX4_parseUnit_71 : decode cX4_parseUnit 71 = .ok (.iload_n 3, 1) := by decide +kernel
theorem dX4_parseUnit_72 : decode cX4_parseUnit 72 = .ok (.iconst 0, 1) := by decide +kernel
theorem dX4_parseUnit_73 : decode cX4_parseUnit 73 = .ok (.invokevirtual 28, 3) := by decide +kernel
theorem dX4_parseUnit_76 : decode cX4_parseUnit 76 = .ok (.return_, 1) := by decide +kernel
theorem dX4_parseBracket_0 : decode cX4_parseBracket 0 = .ok (.iload_n 2, 1) := by decide +kernel
theorem dX4_parseBracket_1 : decode cX4_parseBracket 1 = .ok (.bipush 6, 2) := by decide +kernel
theorem dX4_parseBracket_3 : decode cX4_parseBracket 3 = .ok (.if_icmp .lt 13, 3) := by decide +kernel
theorem dX4_parseBracket_6 : decode cX4_parseBracket 6 = .ok (.aload_n 1, 1) := by decide +kernel
theorem dX4_parseBracket_7 : decode cX4_parseBracket 7 = .ok (.iconst 3, 1) := by decide +kernel
theorem dX4_parseBracket_8 : decode cX4_parseBracket 8 = .ok (.aload_n 1, 1) := by decide +kernel
theorem dX4_parseBracket_9 : decode cX4_parseBracket 9 = .ok (.getfield 79, 3) := by decide +kernel
theorem dX4_parseBracket_12 : decode cX4_parseBracket 12 = .ok (.invokevirtual 82, 3) := by decide +kernel
theorem dX4_parseBracket_15 : decode cX4_parseBracket 15 = .ok (.return_, 1) := by decide +kernel
theorem dX4_parseBracket_16 : decode cX4_parseBracket 16 = .ok (.aload_n 1, 1) := by decide +kernel
theorem dX4_parseBracket_17 : decode cX4_parseBracket 17 = .ok (.bipush 40, 2) := by decide +kernel
theorem dX4_parseBracket_19 : decode cX4_parseBracket 19 = .ok (.invokevirtual 85, 3) := by decide +kernel
theorem dX4_parseBracket_22 : decode cX4_parseBracket 22 = .ok (.aload_n 0, 1) := by decide +kernel
theorem dX4_parseBracket_23 : decode cX4_parseBracket 23 = .ok (.aload_n 1, 1) := by decide +kernel
theorem dX4_parseBracket_24 : decode cX4_parseBracket 24 = .ok (.iload_n 2, 1) := by decide +kernel
theorem dX4_parseBracket_25 : decode cX4_parseBracket 25 = .ok (.iconst 1, 1) := by decide +kernel
theorem dX4_parseBracket_26 : decode cX4_parseBracket 26 = .ok (.iadd, 1) := by decide +kernel
theorem dX4_parseBracket_27 : decode cX4_parseBracket 27 = .ok (.invokevirtual 32, 3) := by decide +kernel
theorem dX4_parseBracket_30 : decode cX4_parseBracket 30 = .ok (.aload_n 1, 1) := by decide +kernel
theorem dX4_parseBracket_31 : decode cX4_parseBracket 31 = .ok (.bipush 41, 2) := by decide +kernel
theorem dX4_parseBracket_33 : decode cX4_parseBracket 33 = .ok (.invokevirtual 85, 3) := by decide +kernel
theorem dX4_parseBracket_36 : decode cX4_parseBracket 36 = .ok (.return_, 1) := by decide +kernel
theorem dX4_parsePair_0 : decode cX4_parsePair 0 = .ok (.iload_n 3, 1) := by decide +kernel
theorem dX4_parsePair_1 : decode cX4_parsePair 1 = .ok (.bipush 6, 2) := by decide +kernel
theorem dX4_parsePair_3 : decode cX4_parsePair 3 = .ok (.if_icmp .lt 13, 3) := by decide +kernel
theorem dX4_parsePair_6 : decode cX4_parsePair 6 = .ok (.aload_n 1, 1) := by decide +kernel
theorem dX4_parsePair_7 : decode cX4_parsePair 7 = .ok (.iconst 3, 1) := by decide +kernel
theorem dX4_parsePair_8 : decode cX4_parsePair 8 = .ok (.aload_n 1, 1) := by decide +kernel
theorem dX4_parsePair_9 : decode cX4_parsePair 9 = .ok (.getfield 79, 3) := by decide +kernel
theorem dX4_parsePair_12 : decode cX4_parsePair 12 = .ok (.invokevirtual 82, 3) := by decide +kernel
theorem dX4_parsePair_15 : decode cX4_parsePair 15 = .ok (.return_, 1) := by decide +kernel
theorem dX4_parsePair_16 : decode cX4_parsePair 16 = .ok (.aload_n 1, 1) := by decide +kernel
theorem dX4_parsePair_17 : decode cX4_parsePair 17 = .ok (.bipush 91, 2) := by decide +kernel
theorem dX4_parsePair_19 : decode cX4_parsePair 19 = .ok (.invokevirtual 85, 3) := by decide +kernel
theorem dX4_parsePair_22 : decode cX4_parsePair 22 = .ok (.aload_n 0, 1) := by decide +kernel
theorem dX4_parsePair_23 : decode cX4_parsePair 23 = .ok (.aload_n 1, 1) := by decide +kernel
theorem dX4_parsePair_24 : decode cX4_parsePair 24 = .ok (.iload_n 3, 1) := by decide +kernel
theorem dX4_parsePair_25 : decode cX4_parsePair 25 = .ok (.iconst 1, 1) := by decide +kernel
theorem dX4_parsePair_26 : decode cX4_parsePair 26 = .ok (.iadd, 1) := by decide +kernel
theorem dX4_parsePair_27 : decode cX4_parsePair 27 = .ok (.invokevirtual 32, 3) := by decide +kernel
theorem dX4_parsePair_30 : decode cX4_parsePair 30 = .ok (.aload_n 1, 1) := by decide +kernel
theorem dX4_parsePair_31 : decode cX4_parsePair 31 = .ok (.bipush 44, 2) := by decide +kernel
theorem dX4_parsePair_33 : decode cX4_parsePair 33 = .ok (.invokevirtual 85, 3) := by decide +kernel
theorem dX4_parsePair_36 : decode cX4_parsePair 36 = .ok (.aload_n 0, 1) := by decide +kernel
theorem dX4_parsePair_37 : decode cX4_parsePair 37 = .ok (.aload_n 1, 1) := by decide +kernel
theorem dX4_parsePair_38 : decode cX4_parsePair 38 = .ok (.iload_n 3, 1) := by decide +kernel
theorem dX4_parsePair_39 : decode cX4_parsePair 39 = .ok (.iconst 1, 1) := by decide +kernel
theorem dX4_parsePair_40 : decode cX4_parsePair 40 = .ok (.iadd, 1) := by decide +kernel
theorem dX4_parsePair_41 : decode cX4_parsePair 41 = .ok (.invokevirtual 32, 3) := by decide +kernel
theorem dX4_parsePair_44 : decode cX4_parsePair 44 = .ok (.aload_n 1, 1) := by decide +kernel
theorem dX4_parsePair_45 : decode cX4_parsePair 45 = .ok (.bipush 93, 2) := by decide +kernel
theorem dX4_parsePair_47 : decode cX4_parsePair 47 = .ok (.invokevirtual 85, 3) := by decide +kernel
theorem dX4_parsePair_50 : decode cX4_parsePair 50 = .ok (.aload_n 0, 1) := by decide +kernel
theorem dX4_parsePair_51 : decode cX4_parsePair 51 = .ok (.iload_n 2, 1) := by decide +kernel
theorem dX4_parsePair_52 : decode cX4_parsePair 52 = .ok (.iconst 0, 1) := by decide +kernel
theorem dX4_parsePair_53 : decode cX4_parsePair 53 = .ok (.invokevirtual 28, 3) := by decide +kernel
theorem dX4_parsePair_56 : decode cX4_parsePair 56 = .ok (.return_, 1) := by decide +kernel
theorem dX4_levelBy_0 : decode cX4_levelBy 0 = .ok (.aload_n 1, 1) := by decide +kernel
theorem dX4_levelBy_1 : decode cX4_levelBy 1 = .ok (.getfield 89, 3) := by decide +kernel
theorem dX4_levelBy_4 : decode cX4_levelBy 4 = .ok (.iload_n 2, 1) := by decide +kernel
theorem dX4_levelBy_5 : decode cX4_levelBy 5 = .ok (.aaload, 1) := by decide +kernel
theorem dX4_levelBy_6 : decode cX4_levelBy 6 = .ok (.astore 4, 2) := by decide +kernel
theorem dX4_levelBy_8 : decode cX4_levelBy 8 = .ok (.aload 4, 2) := by decide +kernel
theorem dX4_levelBy_10 : decode cX4_levelBy 10 = .ok (.invokevirtual 95, 3) := by decide +kernel
theorem dX4_levelBy_13 : decode cX4_levelBy 13 = .ok (.ifCond .eq 7, 3) := by decide +kernel
theorem dX4_levelBy_16 : decode cX4_levelBy 16 = .ok (.iconst 0, 1) := by decide +kernel
theorem dX4_levelBy_17 : decode cX4_levelBy 17 = .ok (.goto 9, 3) := by decide +kernel
theorem dX4_levelBy_20 : decode cX4_levelBy 20 = .ok (.aload 4, 2) := by decide +kernel
theorem dX4_levelBy_22 : decode cX4_levelBy 22 = .ok (.iload_n 3, 1) := by decide +kernel
theorem dX4_levelBy_23 : decode cX4_levelBy 23 = .ok (.invokevirtual 100, 3) := by decide +kernel
theorem dX4_levelBy_26 : decode cX4_levelBy 26 = .ok (.istore 5, 2) := by decide +kernel
theorem dX4_levelBy_28 : decode cX4_levelBy 28 = .ok (.aload_n 0, 1) := by decide +kernel
theorem dX4_levelBy_29 : decode cX4_levelBy 29 = .ok (.getfield 11, 3) := by decide +kernel
theorem dX4_levelBy_32 : decode cX4_levelBy 32 = .ok (.iconst 0, 1) := by decide +kernel
theorem dX4_levelBy_33 : decode cX4_levelBy 33 = .ok (.iload_n 3, 1) := by decide +kernel
theorem dX4_levelBy_34 : decode cX4_levelBy 34 = .ok (.iastore, 1) := by decide +kernel
theorem dX4_levelBy_35 : decode cX4_levelBy 35 = .ok (.aload_n 0, 1) := by decide +kernel
theorem dX4_levelBy_36 : decode cX4_levelBy 36 = .ok (.getfield 11, 3) := by decide +kernel
theorem dX4_levelBy_39 : decode cX4_levelBy 39 = .ok (.iconst 1, 1) := by decide +kernel
theorem dX4_levelBy_40 : decode cX4_levelBy 40 = .ok (.iload 5, 2) := by decide +kernel
theorem dX4_levelBy_42 : decode cX4_levelBy 42 = .ok (.iastore, 1) := by decide +kernel
theorem dX4_levelBy_43 : decode cX4_levelBy 43 = .ok (.aload_n 0, 1) := by decide +kernel
theorem dX4_levelBy_44 : decode cX4_levelBy 44 = .ok (.getfield 11, 3) := by decide +kernel
theorem dX4_levelBy_47 : decode cX4_levelBy 47 = .ok (.iconst 2, 1) := by decide +kernel
theorem dX4_levelBy_48 : decode cX4_levelBy 48 = .ok (.aload 4, 2) := by decide +kernel
theorem dX4_levelBy_50 : decode cX4_levelBy 50 = .ok (.invokevirtual 95, 3) := by decide +kernel
theorem dX4_levelBy_53 : decode cX4_levelBy 53 = .ok (.ifCond .eq 7, 3) := by decide +kernel
theorem dX4_levelBy_56 : decode cX4_levelBy 56 = .ok (.iconst 0, 1) := by decide +kernel
theorem dX4_levelBy_57 : decode cX4_levelBy 57 = .ok (.goto 9, 3) := by decide +kernel
theorem dX4_levelBy_60 : decode cX4_levelBy 60 = .ok (.iload_n 3, 1) := by decide +kernel
theorem dX4_levelBy_61 : decode cX4_levelBy 61 = .ok (.iload 5, 2) := by decide +kernel
theorem dX4_levelBy_63 : decode cX4_levelBy 63 = .ok (.invokestatic 103, 3) := by decide +kernel
theorem dX4_levelBy_66 : decode cX4_levelBy 66 = .ok (.iastore, 1) := by decide +kernel
theorem dX4_levelBy_67 : decode cX4_levelBy 67 = .ok (.aload_n 0, 1) := by decide +kernel
theorem dX4_levelBy_68 : decode cX4_levelBy 68 = .ok (.getfield 11, 3) := by decide +kernel
theorem dX4_levelBy_71 : decode cX4_levelBy 71 = .ok (.iconst 3, 1) := by decide +kernel
theorem dX4_levelBy_72 : decode cX4_levelBy 72 = .ok (.aload 4, 2) := by decide +kernel
theorem dX4_levelBy_74 : decode cX4_levelBy 74 = .ok (.getfield 107, 3) := by decide +kernel
theorem dX4_levelBy_77 : decode cX4_levelBy 77 = .ok (.iastore, 1) := by decide +kernel
theorem dX4_levelBy_78 : decode cX4_levelBy 78 = .ok (.aload_n 0, 1) := by decide +kernel
theorem dX4_levelBy_79 : decode cX4_levelBy 79 = .ok (.getfield 11, 3) := by decide +kernel
theorem dX4_levelBy_82 : decode cX4_levelBy 82 = .ok (.iconst 4, 1) := by decide +kernel
theorem dX4_levelBy_83 : decode cX4_levelBy 83 = .ok (.aload_n 1, 1) := by decide +kernel
theorem dX4_levelBy_84 : decode cX4_levelBy 84 = .ok (.getfield 110, 3) := by decide +kernel
theorem dX4_levelBy_87 : decode cX4_levelBy 87 = .ok (.iastore, 1) := by decide +kernel
theorem dX4_levelBy_88 : decode cX4_levelBy 88 = .ok (.aload_n 0, 1) := by decide +kernel
theorem dX4_levelBy_89 : decode cX4_levelBy 89 = .ok (.getfield 11, 3) := by decide +kernel
theorem dX4_levelBy_92 : decode cX4_levelBy 92 = .ok (.iconst 5, 1) := by decide +kernel
theorem dX4_levelBy_93 : decode cX4_levelBy 93 = .ok (.iload_n 2, 1) := by decide +kernel
theorem dX4_levelBy_94 : decode cX4_levelBy 94 = .ok (.iastore, 1) := by decide +kernel
theorem dX4_levelBy_95 : decode cX4_levelBy 95 = .ok (.aload_n 0, 1) := by decide +kernel
theorem dX4_levelBy_96 : decode cX4_levelBy 96 = .ok (.getfield 11, 3) := by decide +kernel
theorem dX4_levelBy_99 : decode cX4_levelBy 99 = .ok (.bipush 6, 2) := by decide +kernel
theorem dX4_levelBy_101 : decode cX4_levelBy 101 = .ok (.aload 4, 2) := by decide +kernel
theorem dX4_levelBy_103 : decode cX4_levelBy 103 = .ok (.getfield 113, 3) := by decide +kernel
theorem dX4_levelBy_106 : decode cX4_levelBy 106 = .ok (.iastore, 1) := by decide +kernel
theorem dX4_levelBy_107 : decode cX4_levelBy 107 = .ok (.aload_n 0, 1) := by decide +kernel
theorem dX4_levelBy_108 : decode cX4_levelBy 108 = .ok (.getfield 11, 3) := by decide +kernel
theorem dX4_levelBy_111 : decode cX4_levelBy 111 = .ok (.bipush 7, 2) := by decide +kernel
theorem dX4_levelBy_113 : decode cX4_levelBy 113 = .ok (.aload 4, 2) := by decide +kernel
theorem dX4_levelBy_115 : decode cX4_levelBy 115 = .ok (.getfield 116, 3) := by decide +kernel
theorem dX4_levelBy_118 : decode cX4_levelBy 118 = .ok (.iastore, 1) := by decide +kernel
theorem dX4_levelBy_119 : decode cX4_levelBy 119 = .ok (.aload_n 0, 1) := by decide +kernel
theorem dX4_levelBy_120 : decode cX4_levelBy 120 = .ok (.invokevirtual 119, 3) := by decide +kernel
theorem dX4_levelBy_123 : decode cX4_levelBy 123 = .ok (.ireturn, 1) := by decide +kernel
theorem dX4_levelOfGiven_0 : decode cX4_levelOfGiven 0 = .ok (.iconst 0, 1) := by decide +kernel
theorem dX4_levelOfGiven_1 : decode cX4_levelOfGiven 1 = .ok (.istore_n 1, 1) := by decide +kernel
theorem dX4_levelOfGiven_2 : decode cX4_levelOfGiven 2 = .ok (.iconst 0, 1) := by decide +kernel
theorem dX4_levelOfGiven_3 : decode cX4_levelOfGiven 3 = .ok (.istore_n 2, 1) := by decide +kernel
theorem dX4_levelOfGiven_4 : decode cX4_levelOfGiven 4 = .ok (.iload_n 2, 1) := by decide +kernel
theorem dX4_levelOfGiven_5 : decode cX4_levelOfGiven 5 = .ok (.aload_n 0, 1) := by decide +kernel
theorem dX4_levelOfGiven_6 : decode cX4_levelOfGiven 6 = .ok (.getfield 24, 3) := by decide +kernel
theorem dX4_levelOfGiven_9 : decode cX4_levelOfGiven 9 = .ok (.if_icmp .ge 106, 3) := by decide +kernel
theorem dX4_levelOfGiven_12 : decode cX4_levelOfGiven 12 = .ok (.aload_n 0, 1) := by decide +kernel
theorem dX4_levelOfGiven_13 : decode cX4_levelOfGiven 13 = .ok (.getfield 15, 3) := by decide +kernel
theorem dX4_levelOfGiven_16 : decode cX4_levelOfGiven 16 = .ok (.iload_n 2, 1) := by decide +kernel
theorem dX4_levelOfGiven_17 : decode cX4_levelOfGiven 17 = .ok (.iaload, 1) := by decide +kernel
theorem dX4_levelOfGiven_18 : decode cX4_levelOfGiven 18 = .ok (.istore_n 3, 1) := by decide +kernel
theorem dX4_levelOfGiven_19 : decode cX4_levelOfGiven 19 = .ok (.iload_n 3, 1) := by decide +kernel
theorem dX4_levelOfGiven_20 : decode cX4_levelOfGiven 20 = .ok (.bipush 15, 2) := by decide +kernel
theorem dX4_levelOfGiven_22 : decode cX4_levelOfGiven 22 = .ok (.if_icmp .eq 13, 3) := by decide +kernel
theorem dX4_levelOfGiven_25 : decode cX4_levelOfGiven 25 = .ok (.iload_n 3, 1) := by decide +kernel
theorem dX4_levelOfGiven_26 : decode cX4_levelOfGiven 26 = .ok (.ifCond .lt 49, 3) := by decide +kernel
theorem dX4_levelOfGiven_29 : decode cX4_levelOfGiven 29 = .ok (.iload_n 3, 1) := by decide +kernel
theorem dX4_levelOfGiven_30 : decode cX4_levelOfGiven 30 = .ok (.bipush 8, 2) := by decide +kernel
theorem dX4_levelOfGiven_32 : decode cX4_levelOfGiven 32 = .ok (.if_icmp .ge 43, 3) := by decide +kernel
theorem dX4_levelOfGiven_35 : decode cX4_levelOfGiven 35 = .ok (.iload_n 1, 1) := by decide +kernel
theorem dX4_levelOfGiven_36 : decode cX4_levelOfGiven 36 = .ok (.sipush 150, 3) := by decide +kernel
theorem dX4_levelOfGiven_39 : decode cX4_levelOfGiven 39 = .ok (.if_icmp .ge 70, 3) := by decide +kernel
theorem dX4_levelOfGiven_42 : decode cX4_levelOfGiven 42 = .ok (.aload_n 0, 1) := by decide +kernel
theorem dX4_levelOfGiven_43 : decode cX4_levelOfGiven 43 = .ok (.getfield 21, 3) := by decide +kernel
theorem dX4_levelOfGiven_46 : decode cX4_levelOfGiven 46 = .ok (.iload_n 1, 1) := by decide +kernel
theorem dX4_levelOfGiven_47 : decode cX4_levelOfGiven 47 = .ok (.iload_n 3, 1) := by decide +kernel
theorem dX4_levelOfGiven_48 : decode cX4_levelOfGiven 48 = .ok (.bipush 15, 2) := by decide +kernel
theorem dX4_levelOfGiven_50 : decode cX4_levelOfGiven 50 = .ok (.if_icmp .ne 12, 3) := by decide +kernel
theorem dX4_levelOfGiven_53 : decode cX4_levelOfGiven 53 = .ok (.aload_n 0, 1) := by decide +kernel
theorem dX4_levelOfGiven_54 : decode cX4_levelOfGiven 54 = .ok (.getfield 18, 3) := by decide +kernel
theorem dX4_levelOfGiven_57 : decode cX4_levelOfGiven 57 = .ok (.iload_n 2, 1) := by decide +kernel
theorem dX4_levelOfGiven_58 : decode cX4_levelOfGiven 58 = .ok (.iaload, 1) := by decide +kernel
theorem dX4_levelOfGiven_59 : decode cX4_levelOfGiven 59 = .ok (.goto 9, 3) := by decide +kernel
theorem dX4_levelOfGiven_62 : decode cX4_levelOfGiven 62 = .ok (.aload_n 0, 1) := by decide +kernel
theorem dX4_levelOfGiven_63 : decode cX4_levelOfGiven 63 = .ok (.getfield 11, 3) := by decide +kernel
theorem dX4_levelOfGiven_66 : decode cX4_levelOfGiven 66 = .ok (.iload_n 3, 1) := by decide +kernel
theorem dX4_levelOfGiven_67 : decode cX4_levelOfGiven 67 = .ok (.iaload, 1) := by decide +kernel
theorem dX4_levelOfGiven_68 : decode cX4_levelOfGiven 68 = .ok (.iastore, 1) := by decide +kernel
theorem dX4_levelOfGiven_69 : decode cX4_levelOfGiven 69 = .ok (.iinc 1 1, 3) := by decide +kernel
theorem dX4_levelOfGiven_72 : decode cX4_levelOfGiven 72 = .ok (.goto 37, 3) := by decide +kernel
theorem dX4_levelOfGiven_75 : decode cX4_levelOfGiven 75 = .ok (.iload_n 1, 1) := by decide +kernel
theorem dX4_levelOfGiven_76 : decode cX4_levelOfGiven 76 = .ok (.iconst 2, 1) := by decide +kernel
theorem dX4_levelOfGiven_77 : decode cX4_levelOfGiven 77 = .ok (.if_icmp .lt 32, 3) := by decide +kernel
theorem dX4_levelOfGiven_80 : decode cX4_levelOfGiven 80 = .ok (.iinc 1 (-1), 3) := by decide +kernel
theorem dX4_levelOfGiven_83 : decode cX4_levelOfGiven 83 = .ok (.aload_n 0, 1) := by decide +kernel
theorem dX4_levelOfGiven_84 : decode cX4_levelOfGiven 84 = .ok (.getfield 21, 3) := by decide +kernel
theorem dX4_levelOfGiven_87 : decode cX4_levelOfGiven 87 = .ok (.iload_n 1, 1) := by decide +kernel
theorem dX4_levelOfGiven_88 : decode cX4_levelOfGiven 88 = .ok (.iconst 1, 1) := by decide +kernel
theorem dX4_levelOfGiven_89 : decode cX4_levelOfGiven 89 = .ok (.isub, 1) := by decide +kernel
theorem dX4_levelOfGiven_90 : decode cX4_levelOfGiven 90 = .ok (.iload_n 3, 1) := by decide +kernel
theorem dX4_levelOfGiven_91 : decode cX4_levelOfGiven 91 = .ok (.aload_n 0, 1) := by decide +kernel
theorem dX4_levelOfGiven_92 : decode cX4_levelOfGiven 92 = .ok (.getfield 21, 3) := by decide +kernel
theorem dX4_levelOfGiven_95 : decode cX4_levelOfGiven 95 = .ok (.iload_n 1, 1) := by decide +kernel
theorem dX4_levelOfGiven_96 : decode cX4_levelOfGiven 96 = .ok (.iconst 1, 1) := by decide +kernel
theorem dX4_levelOfGiven_97 : decode cX4_levelOfGiven 97 = .ok (.isub, 1) := by decide +kernel
theorem dX4_levelOfGiven_98 : decode cX4_levelOfGiven 98 = .ok (.iaload, 1) := by decide +kernel
theorem dX4_levelOfGiven_99 : decode cX4_levelOfGiven 99 = .ok (.aload_n 0, 1) := by decide +kernel
theorem dX4_levelOfGiven_100 : decode cX4_levelOfGiven 100 = .ok (.getfield 21, 3) := by decide +kernel
theorem dX4_levelOfGiven_103 : decode cX4_levelOfGiven 103 = .ok (.iload_n 1, 1) := by decide +kernel
theorem dX4_levelOfGiven_104 : decode cX4_levelOfGiven 104 = .ok (.iaload, 1) := by decide +kernel
theorem dX4_levelOfGiven_105 : decode cX4_levelOfGiven 105 = .ok (.invokestatic 123, 3) := by decide +kernel
theorem dX4_levelOfGiven_108 : decode cX4_levelOfGiven 108 = .ok (.iastore, 1) := by decide +kernel
theorem dX4_levelOfGiven_109 : decode cX4_levelOfGiven 109 = .ok (.iinc 2 1, 3) := by decide +kernel
theorem dX4_levelOfGiven_112 : decode cX4_levelOfGiven 112 = .ok (.goto (-108), 3) := by decide +kernel
theorem dX4_levelOfGiven_115 : decode cX4_levelOfGiven 115 = .ok (.iconst 0, 1) := by decide +kernel
theorem dX4_levelOfGiven_116 : decode cX4_levelOfGiven 116 = .ok (.bipush 99, 2) := by decide +kernel
theorem dX4_levelOfGiven_118 : decode cX4_levelOfGiven 118 = .ok (.aload_n 0, 1) := by decide +kernel
theorem dX4_levelOfGiven_119 : decode cX4_levelOfGiven 119 = .ok (.getfield 21, 3) := by decide +kernel
theorem dX4_levelOfGiven_122 : decode cX4_levelOfGiven 122 = .ok (.iconst 0, 1) := by decide +kernel
theorem dX4_levelOfGiven_123 : decode cX4_levelOfGiven 123 = .ok (.iaload, 1) := by decide +kernel
theorem dX4_levelOfGiven_124 : decode cX4_levelOfGiven 124 = .ok (.invokestatic 127, 3) := by decide +kernel
theorem dX4_levelOfGiven_127 : decode cX4_levelOfGiven 127 = .ok (.invokestatic 132, 3) := by decide +kernel
theorem dX4_levelOfGiven_130 : decode cX4_levelOfGiven 130 = .ok (.ireturn, 1) := by decide +kernel
theorem dX4_together_0 : decode cX4_together 0 = .ok (.iload_n 0, 1) := by decide +kernel
theorem dX4_together_1 : decode cX4_together 1 = .ok (.tableswitch 91 8 14 #[43, 49, 55, 59, 63, 67, 79], 43) := by decide +kernel
theorem dX4_together_44 : decode cX4_together 44 = .ok (.iload_n 1, 1) := by decide +kernel
theorem dX4_together_45 : decode cX4_together 45 = .ok (.iload_n 2, 1) := by decide +kernel
theorem dX4_together_46 : decode cX4_together 46 = .ok (.invokestatic 127, 3) := by decide +kernel
theorem dX4_together_49 : decode cX4_together 49 = .ok (.ireturn, 1) := by decide +kernel
theorem dX4_together_50 : decode cX4_together 50 = .ok (.iload_n 1, 1) := by decide +kernel
theorem dX4_together_51 : decode cX4_together 51 = .ok (.iload_n 2, 1) := by decide +kernel
theorem dX4_together_52 : decode cX4_together 52 = .ok (.invokestatic 132, 3) := by decide +kernel
theorem dX4_together_55 : decode cX4_together 55 = .ok (.ireturn, 1) := by decide +kernel
theorem dX4_together_56 : decode cX4_together 56 = .ok (.iload_n 1, 1) := by decide +kernel
theorem dX4_together_57 : decode cX4_together 57 = .ok (.iload_n 2, 1) := by decide +kernel
theorem dX4_together_58 : decode cX4_together 58 = .ok (.iadd, 1) := by decide +kernel
theorem dX4_together_59 : decode cX4_together 59 = .ok (.ireturn, 1) := by decide +kernel
theorem dX4_together_60 : decode cX4_together 60 = .ok (.iload_n 1, 1) := by decide +kernel
theorem dX4_together_61 : decode cX4_together 61 = .ok (.iload_n 2, 1) := by decide +kernel
theorem dX4_together_62 : decode cX4_together 62 = .ok (.isub, 1) := by decide +kernel
theorem dX4_together_63 : decode cX4_together 63 = .ok (.ireturn, 1) := by decide +kernel
theorem dX4_together_64 : decode cX4_together 64 = .ok (.iload_n 1, 1) := by decide +kernel
theorem dX4_together_65 : decode cX4_together 65 = .ok (.iload_n 2, 1) := by decide +kernel
theorem dX4_together_66 : decode cX4_together 66 = .ok (.imul, 1) := by decide +kernel
theorem dX4_together_67 : decode cX4_together 67 = .ok (.ireturn, 1) := by decide +kernel
theorem dX4_together_68 : decode cX4_together 68 = .ok (.iload_n 2, 1) := by decide +kernel
theorem dX4_together_69 : decode cX4_together 69 = .ok (.ifCond .ne 7, 3) := by decide +kernel
theorem dX4_together_72 : decode cX4_together 72 = .ok (.iconst 0, 1) := by decide +kernel
theorem dX4_together_73 : decode cX4_together 73 = .ok (.goto 6, 3) := by decide +kernel
theorem dX4_together_76 : decode cX4_together 76 = .ok (.iload_n 1, 1) := by decide +kernel
theorem dX4_together_77 : decode cX4_together 77 = .ok (.iload_n 2, 1) := by decide +kernel
theorem dX4_together_78 : decode cX4_together 78 = .ok (.idiv, 1) := by decide +kernel
theorem dX4_together_79 : decode cX4_together 79 = .ok (.ireturn, 1) := by decide +kernel
theorem dX4_together_80 : decode cX4_together 80 = .ok (.iload_n 2, 1) := by decide +kernel
theorem dX4_together_81 : decode cX4_together 81 = .ok (.ifCond .ne 7, 3) := by decide +kernel
theorem dX4_together_84 : decode cX4_together 84 = .ok (.iconst 0, 1) := by decide +kernel
theorem dX4_together_85 : decode cX4_together 85 = .ok (.goto 6, 3) := by decide +kernel
theorem dX4_together_88 : decode cX4_together 88 = .ok (.iload_n 1, 1) := by decide +kernel
theorem dX4_together_89 : decode cX4_together 89 = .ok (.iload_n 2, 1) := by decide +kernel
theorem dX4_together_90 : decode cX4_together 90 = .ok (.irem, 1) := by decide +kernel
theorem dX4_together_91 : decode cX4_together 91 = .ok (.ireturn, 1) := by decide +kernel
theorem dX4_together_92 : decode cX4_together 92 = .ok (.iconst 0, 1) := by decide +kernel
theorem dX4_together_93 : decode cX4_together 93 = .ok (.ireturn, 1) := by decide +kernel
theorem dX5_init_0 : decode cX5_init 0 = .ok (.aload_n 0, 1) := by decide +kernel
theorem dX5_init_1 : decode cX5_init 1 = .ok (.invokespecial 3, 3) := by decide +kernel
theorem dX5_init_4 : decode cX5_init 4 = .ok (.aload_n 0, 1) := by decide +kernel
theorem dX5_init_5 : decode cX5_init 5 = .ok (.iconst (-1), 1) := by decide +kernel
theorem dX5_init_6 : decode cX5_init 6 = .ok (.putfield 9, 3) := by decide +kernel
theorem dX5_init_9 : decode cX5_init 9 = .ok (.aload_n 0, 1) := by decide +kernel
theorem dX5_init_10 : decode cX5_init 10 = .ok (.bipush 24, 2) := by decide +kernel
theorem dX5_init_12 : decode cX5_init 12 = .ok (.newarray .long, 2) := by decide +kernel
theorem dX5_init_14 : decode cX5_init 14 = .ok (.putfield 15, 3) := by decide +kernel
theorem dX5_init_17 : decode cX5_init 17 = .ok (.aload_n 0, 1) := by decide +kernel
theorem dX5_init_18 : decode cX5_init 18 = .ok (.bipush 24, 2) := by decide +kernel
theorem dX5_init_20 : decode cX5_init 20 = .ok (.newarray .double, 2) := by decide +kernel
theorem dX5_init_22 : decode cX5_init 22 = .ok (.putfield 19, 3) := by decide +kernel
theorem dX5_init_25 : decode cX5_init 25 = .ok (.aload_n 0, 1) := by decide +kernel
theorem dX5_init_26 : decode cX5_init 26 = .ok (.bipush 24, 2) := by decide +kernel
theorem dX5_init_28 : decode cX5_init 28 = .ok (.newarray .byte, 2) := by decide +kernel
theorem dX5_init_30 : decode cX5_init 30 = .ok (.putfield 23, 3) := by decide +kernel
theorem dX5_init_33 : decode cX5_init 33 = .ok (.return_, 1) := by decide +kernel
theorem dX5_begin_0 : decode cX5_begin 0 = .ok (.aload_n 0, 1) := by decide +kernel
theorem dX5_begin_1 : decode cX5_begin 1 = .ok (.iload_n 1, 1) := by decide +kernel
theorem dX5_begin_2 : decode cX5_begin 2 = .ok (.putfield 27, 3) := by decide +kernel
theorem dX5_begin_5 : decode cX5_begin 5 = .ok (.aload_n 0, 1) := by decide +kernel
theorem dX5_begin_6 : decode cX5_begin 6 = .ok (.iload_n 2, 1) := by decide +kernel
theorem dX5_begin_7 : decode cX5_begin 7 = .ok (.putfield 30, 3) := by decide +kernel
theorem dX5_begin_10 : decode cX5_begin 10 = .ok (.aload_n 0, 1) := by decide +kernel
theorem dX5_begin_11 : decode cX5_begin 11 = .ok (.iload_n 3, 1) := by decide +kernel
theorem dX5_begin_12 : decode cX5_begin 12 = .ok (.putfield 33, 3) := by decide +kernel
theorem dX5_begin_15 : decode cX5_begin 15 = .ok (.aload_n 0, 1) := by decide +kernel
theorem dX5_begin_16 : decode cX5_begin 16 = .ok (.iload 4, 2) := by decide +kernel
theorem dX5_begin_18 : decode cX5_begin 18 = .ok (.invokevirtual 36, 3) := by decide +kernel
theorem dX5_begin_21 : decode cX5_begin 21 = .ok (.return_, 1) := by decide +kernel
theorem dX5_copyFrom_0 : decode cX5_copyFrom 0 = .ok (.aload_n 0, 1) := by decide +kernel
theorem dX5_copyFrom_1 : decode cX5_copyFrom 1 = .ok (.aload_n 1, 1) := by decide +kernel
theorem dX5_copyFrom_2 : decode cX5_copyFrom 2 = .ok (.getfield 27, 3) := by decide +kernel
theorem dX5_copyFrom_5 : decode cX5_copyFrom 5 = .ok (.putfield 27, 3) := by decide +kernel
theorem dX5_copyFrom_8 : decode cX5_copyFrom 8 = .ok (.aload_n 0, 1) := by decide +kernel
theorem dX5_copyFrom_9 : decode cX5_copyFrom 9 = .ok (.aload_n 1, 1) := by decide +kernel
theorem dX5_copyFrom_10 : decode cX5_copyFrom 10 = .ok (.getfield 30, 3) := by decide +kernel
theorem dX5_copyFrom_13 : decode cX5_copyFrom 13 = .ok (.putfield 30, 3) := by decide +kernel
theorem dX5_copyFrom_16 : decode cX5_copyFrom 16 = .ok (.aload_n 0, 1) := by decide +kernel
theorem dX5_copyFrom_17 : decode cX5_copyFrom 17 = .ok (.aload_n 1, 1) := by decide +kernel
theorem dX5_copyFrom_18 : decode cX5_copyFrom 18 = .ok (.getfield 33, 3) := by decide +kernel
theorem dX5_copyFrom_21 : decode cX5_copyFrom 21 = .ok (.putfield 33, 3) := by decide +kernel
theorem dX5_copyFrom_24 : decode cX5_copyFrom 24 = .ok (.aload_n 0, 1) := by decide +kernel
theorem dX5_copyFrom_25 : decode cX5_copyFrom 25 = .ok (.aload_n 1, 1) := by decide +kernel
theorem dX5_copyFrom_26 : decode cX5_copyFrom 26 = .ok (.getfield 9, 3) := by decide +kernel
theorem dX5_copyFrom_29 : decode cX5_copyFrom 29 = .ok (.putfield 9, 3) := by decide +kernel
theorem dX5_copyFrom_32 : decode cX5_copyFrom 32 = .ok (.aload_n 0, 1) := by decide +kernel
theorem dX5_copyFrom_33 : decode cX5_copyFrom 33 = .ok (.aload_n 1, 1) := by decide +kernel
theorem dX5_copyFrom_34 : decode cX5_copyFrom 34 = .ok (.getfield 40, 3) := by decide +kernel
theorem dX5_copyFrom_37 : decode cX5_copyFrom 37 = .ok (.putfield 40, 3) := by decide +kernel
theorem dX5_copyFrom_40 : decode cX5_copyFrom 40 = .ok (.aload_n 0, 1) := by decide +kernel
theorem dX5_copyFrom_41 : decode cX5_copyFrom 41 = .ok (.aload_n 1, 1) := by decide +kernel
theorem dX5_copyFrom_42 : decode cX5_copyFrom 42 = .ok (.bipush 24, 2) := by decide +kernel
theorem dX5_copyFrom_44 : decode cX5_copyFrom 44 = .ok (.invokevirtual 43, 3) := by decide +kernel
theorem dX5_copyFrom_47 : decode cX5_copyFrom 47 = .ok (.return_, 1) := by decide +kernel
theorem dX5_copyPlaces_0 : decode cX5_copyPlaces 0 = .ok (.aload_n 1, 1) := by decide +kernel
theorem dX5_copyPlaces_1 : decode cX5_copyPlaces 1 = .ok (.getfield 15, 3) := by decide +kernel
theorem dX5_copyPlaces_4 : decode cX5_copyPlaces 4 = .ok (.iconst 0, 1) := by decide +kernel
theorem dX5_copyPlaces_5 : decode cX5_copyPlaces 5 = .ok (.aload_n 0, 1) := by decide +kernel
theorem dX5_copyPlaces_6 : decode cX5_copyPlaces 6 = .ok (.getfield 15, 3) := by decide +kernel
theorem dX5_copyPlaces_9 : decode cX5_copyPlaces 9 = .ok (.iconst 0, 1) := by decide +kernel
theorem dX5_copyPlaces_10 : decode cX5_copyPlaces 10 = .ok (.iload_n 2, 1) := by decide +kernel
theorem dX5_copyPlaces_11 : decode cX5_copyPlaces 11 = .ok (.invokestatic 47, 3) := by decide +kernel
theorem dX5_copyPlaces_14 : decode cX5_copyPlaces 14 = .ok (.aload_n 1, 1) := by decide +kernel
theorem dX5_copyPlaces_15 : decode cX5_copyPlaces 15 = .ok (.getfield 19, 3) := by decide +kernel
theorem dX5_copyPlaces_18 : decode cX5_copyPlaces 18 = .ok (.iconst 0, 1) := by decide +kernel
theorem dX5_copyPlaces_19 : decode cX5_copyPlaces 19 = .ok (.aload_n 0, 1) := by decide +kernel
theorem dX5_copyPlaces_20 : decode cX5_copyPlaces 20 = .ok (.getfield 19, 3) := by decide +kernel
theorem dX5_copyPlaces_23 : decode cX5_copyPlaces 23 = .ok (.iconst 0, 1) := by decide +kernel
theorem dX5_copyPlaces_24 : decode cX5_copyPlaces 24 = .ok (.iload_n 2, 1) := by decide +kernel
theorem dX5_copyPlaces_25 : decode cX5_copyPlaces 25 = .ok (.invokestatic 47, 3) := by decide +kernel
theorem dX5_copyPlaces_28 : decode cX5_copyPlaces 28 = .ok (.aload_n 1, 1) := by decide +kernel
theorem dX5_copyPlaces_29 : decode cX5_copyPlaces 29 = .ok (.getfield 23, 3) := by decide +kernel
theorem dX5_copyPlaces_32 : decode cX5_copyPlaces 32 = .ok (.iconst 0, 1) := by decide +kernel
theorem dX5_copyPlaces_33 : decode cX5_copyPlaces 33 = .ok (.aload_n 0, 1) := by decide +kernel
theorem dX5_copyPlaces_34 : decode cX5_copyPlaces 34 = .ok (.getfield 23, 3) := by decide +kernel
theorem dX5_copyPlaces_37 : decode cX5_copyPlaces 37 = .ok (.iconst 0, 1) := by decide +kernel
theorem dX5_copyPlaces_38 : decode cX5_copyPlaces 38 = .ok (.iload_n 2, 1) := by decide +kernel
theorem dX5_copyPlaces_39 : decode cX5_copyPlaces 39 = .ok (.invokestatic 47, 3) := by decide +kernel
theorem dX5_copyPlaces_42 : decode cX5_copyPlaces 42 = .ok (.return_, 1) := by decide +kernel
theorem dX5_newSheet_0 : decode cX5_newSheet 0 = .ok (.aload_n 0, 1) := by decide +kernel
theorem dX5_newSheet_1 : decode cX5_newSheet 1 = .ok (.iload_n 1, 1) := by decide +kernel
theorem dX5_newSheet_2 : decode cX5_newSheet 2 = .ok (.putfield 9, 3) := by decide +kernel
theorem dX5_newSheet_5 : decode cX5_newSheet 5 = .ok (.aload_n 0, 1) := by decide +kernel
theorem dX5_newSheet_6 : decode cX5_newSheet 6 = .ok (.iconst 0, 1) := by decide +kernel
theorem dX5_newSheet_7 : decode cX5_newSheet 7 = .ok (.putfield 40, 3) := by decide +kernel
theorem dX5_newSheet_10 : decode cX5_newSheet 10 = .ok (.iconst 0, 1) := by decide +kernel
theorem dX5_newSheet_11 : decode cX5_newSheet 11 = .ok (.istore_n 2, 1) := by decide +kernel
theorem dX5_newSheet_12 : decode cX5_newSheet 12 = .ok (.iload_n 2, 1) := by decide +kernel
theorem dX5_newSheet_13 : decode cX5_newSheet 13 = .ok (.bipush 24, 2) := by decide +kernel
theorem dX5_newSheet_15 : decode cX5_newSheet 15 = .ok (.if_icmp .ge 14, 3) := by decide +kernel
theorem dX5_newSheet_18 : decode cX5_newSheet 18 = .ok (.aload_n 0, 1) := by decide +kernel
theorem dX5_newSheet_19 : decode cX5_newSheet 19 = .ok (.iload_n 2, 1) := by decide +kernel
theorem dX5_newSheet_20 : decode cX5_newSheet 20 = .ok (.invokevirtual 53, 3) := by decide +kernel
theorem dX5_newSheet_23 : decode cX5_newSheet 23 = .ok (.iinc 2 1, 3) := by decide +kernel
theorem dX5_newSheet_26 : decode cX5_newSheet 26 = .ok (.goto (-14), 3) := by decide +kernel
theorem dX5_newSheet_29 : decode cX5_newSheet 29 = .ok (.return_, 1) := by decide +kernel
theorem dX5_clearPlace_0 : decode cX5_clearPlace 0 = .ok (.aload_n 0, 1) := by decide +kernel
theorem dX5_clearPlace_1 : decode cX5_clearPlace 1 = .ok (.getfield 15, 3) := by decide +kernel
theorem dX5_clearPlace_4 : decode cX5_clearPlace 4 = .ok (.iload_n 1, 1) := by decide +kernel
theorem dX5_clearPlace_5 : decode cX5_clearPlace 5 = .ok (.lconst 0, 1) := by decide +kernel
theorem dX5_clearPlace_6 : decode cX5_clearPlace 6 = .ok (.lastore, 1) := by decide +kernel
theorem dX5_clearPlace_7 : decode cX5_clearPlace 7 = .ok (.aload_n 0, 1) := by decide +kernel
theorem dX5_clearPlace_8 : decode cX5_clearPlace 8 = .ok (.getfield 19, 3) := by decide +kernel
theorem dX5_clearPlace_11 : decode cX5_clearPlace 11 = .ok (.iload_n 1, 1) := by decide +kernel
theorem dX5_clearPlace_12 : decode cX5_clearPlace 12 = .ok (.dconst 0, 1) := by decide +kernel
theorem dX5_clearPlace_13 : decode cX5_clearPlace 13 = .ok (.dastore, 1) := by decide +kernel
theorem dX5_clearPlace_14 : decode cX5_clearPlace 14 = .ok (.aload_n 0, 1) := by decide +kernel
theorem dX5_clearPlace_15 : decode cX5_clearPlace 15 = .ok (.getfield 23, 3) := by decide +kernel
theorem dX5_clearPlace_18 : decode cX5_clearPlace 18 = .ok (.iload_n 1, 1) := by decide +kernel
theorem dX5_clearPlace_19 : decode cX5_clearPlace 19 = .ok (.iconst 0, 1) := by decide +kernel
theorem dX5_clearPlace_20 : decode cX5_clearPlace 20 = .ok (.bastore, 1) := by decide +kernel
theorem dX5_clearPlace_21 : decode cX5_clearPlace 21 = .ok (.return_, 1) := by decide +kernel
theorem dX5_jams_0 : decode cX5_jams 0 = .ok (.aload_n 0, 1) := by decide +kernel
theorem dX5_jams_1 : decode cX5_jams 1 = .ok (.getfield 33, 3) := by decide +kernel
theorem dX5_jams_4 : decode cX5_jams 4 = .ok (.ifCond .ne 15, 3) := by decide +kernel
theorem dX5_jams_7 : decode cX5_jams 7 = .ok (.aload_n 0, 1) := by decide +kernel
theorem dX5_jams_8 : decode cX5_jams 8 = .ok (.getfield 27, 3) := by decide +kernel
theorem dX5_jams_11 : decode cX5_jams 11 = .ok (.iconst 4, 1) := by decide +kernel
theorem dX5_jams_12 : decode cX5_jams 12 = .ok (.if_icmp .gt 7, 3) := by decide +kernel
theorem dX5_jams_15 : decode cX5_jams 15 = .ok (.iconst 1, 1) := by decide +kernel
theorem dX5_jams_16 : decode cX5_jams 16 = .ok (.goto 4, 3) := by decide +kernel
theorem dX5_jams_19 : decode cX5_jams 19 = .ok (.iconst 0, 1) := by decide +kernel
theorem dX5_jams_20 : decode cX5_jams 20 = .ok (.ireturn, 1) := by decide +kernel
theorem dX5_freePlaces_0 : decode cX5_freePlaces 0 = .ok (.aload_n 0, 1) := by decide +kernel
theorem dX5_freePlaces_1 : decode cX5_freePlaces 1 = .ok (.getfield 9, 3) := by decide +kernel
theorem dX5_freePlaces_4 : decode cX5_freePlaces 4 = .ok (.iconst (-1), 1) := by decide +kernel
theorem dX5_freePlaces_5 : decode cX5_freePlaces 5 = .ok (.if_icmp .ne 7, 3) := by decide +kernel
theorem dX5_freePlaces_8 : decode cX5_freePlaces 8 = .ok (.iconst 0, 1) := by decide +kernel
theorem dX5_freePlaces_9 : decode cX5_freePlaces 9 = .ok (.goto 12, 3) := by decide +kernel
theorem dX5_freePlaces_12 : decode cX5_freePlaces 12 = .ok (.aload_n 0, 1) := by decide +kernel
theorem dX5_freePlaces_13 : decode cX5_freePlaces 13 = .ok (.getfield 9, 3) := by decide +kernel
theorem dX5_freePlaces_16 : decode cX5_freePlaces 16 = .ok (.aload_n 0, 1) := by decide +kernel
theorem dX5_freePlaces_17 : decode cX5_freePlaces 17 = .ok (.getfield 40, 3) := by decide +kernel
theorem dX5_freePlaces_20 : decode cX5_freePlaces 20 = .ok (.isub, 1) := by decide +kernel
theorem dX5_freePlaces_21 : decode cX5_freePlaces 21 = .ok (.ireturn, 1) := by decide +kernel
theorem dX5_canWrite_0 : decode cX5_canWrite 0 = .ok (.aload_n 0, 1) := by decide +kernel
theorem dX5_canWrite_1 : decode cX5_canWrite 1 = .ok (.invokevirtual 56, 3) := by decide +kernel
theorem dX5_canWrite_4 : decode cX5_canWrite 4 = .ok (.ifCond .ne 14, 3) := by decide +kernel
theorem dX5_canWrite_7 : decode cX5_canWrite 7 = .ok (.aload_n 0, 1) := by decide +kernel
theorem dX5_canWrite_8 : decode cX5_canWrite 8 = .ok (.invokevirtual 60, 3) := by decide +kernel
theorem dX5_canWrite_11 : decode cX5_canWrite 11 = .ok (.ifCond .le 7, 3) := by decide +kernel
theorem dX5_canWrite_14 : decode cX5_canWrite 14 = .ok (.iconst 1, 1) := by decide +kernel
theorem dX5_canWrite_15 : decode cX5_canWrite 15 = .ok (.goto 4, 3) := by decide +kernel
theorem dX5_canWrite_18 : decode cX5_canWrite 18 = .ok (.iconst 0, 1) := by decide +kernel
theorem dX5_canWrite_19 : decode cX5_canWrite 19 = .ok (.ireturn, 1) := by decide +kernel
theorem dX5_write_0 : decode cX5_write 0 = .ok (.aload_n 0, 1) := by decide +kernel
theorem dX5_write_1 : decode cX5_write 1 = .ok (.invokevirtual 64, 3) := by decide +kernel
theorem dX5_write_4 : decode cX5_write 4 = .ok (.ifCond .eq 35, 3) := by decide +kernel
theorem dX5_write_7 : decode cX5_write 7 = .ok (.aload_n 0, 1) := by decide +kernel
theorem dX5_write_8 : decode cX5_write 8 = .ok (.getfield 19, 3) := by decide +kernel
theorem dX5_write_11 : decode cX5_write 11 = .ok (.aload_n 0, 1) := by decide +kernel
theorem dX5_write_12 : decode cX5_write 12 = .ok (.getfield 40, 3) := by decide +kernel
theorem dX5_write_15 : decode cX5_write 15 = .ok (.aload_n 0, 1) := by decide +kernel
theorem dX5_write_16 : decode cX5_write 16 = .ok (.iload_n 1, 1) := by decide +kernel
theorem dX5_write_17 : decode cX5_write 17 = .ok (.invokevirtual 67, 3) := by decide +kernel
theorem dX5_write_20 : decode cX5_write 20 = .ok (.dastore, 1) := by decide +kernel
theorem dX5_write_21 : decode cX5_write 21 = .ok (.aload_n 0, 1) := by decide +kernel
theorem dX5_write_22 : decode cX5_write 22 = .ok (.getfield 23, 3) := by decide +kernel
theorem dX5_write_25 : decode cX5_write 25 = .ok (.aload_n 0, 1) := by decide +kernel
theorem dX5_write_26 : decode cX5_write 26 = .ok (.getfield 40, 3) := by decide +kernel
theorem dX5_write_29 : decode cX5_write 29 = .ok (.aload_n 0, 1) := by decide +kernel
theorem dX5_write_30 : decode cX5_write 30 = .ok (.iload_n 1, 1) := by decide +kernel
theorem dX5_write_31 : decode cX5_write 31 = .ok (.invokevirtual 71, 3) := by decide +kernel
theorem dX5_write_34 : decode cX5_write 34 = .ok (.i2b, 1) := by decide +kernel
theorem dX5_write_35 : decode cX5_write 35 = .ok (.bastore, 1) := by decide +kernel
theorem dX5_write_36 : decode cX5_write 36 = .ok (.goto 17, 3) := by decide +kernel
theorem dX5_write_39 : decode cX5_write 39 = .ok (.aload_n 0, 1) := by decide +kernel
theorem dX5_write_40 : decode cX5_write 40 = .ok (.getfield 15, 3) := by decide +kernel
theorem dX5_write_43 : decode cX5_write 43 = .ok (.aload_n 0, 1) := by decide +kernel
theorem dX5_write_44 : decode cX5_write 44 = .ok (.getfield 40, 3) := by decide +kernel
theorem dX5_write_47 : decode cX5_write 47 = .ok (.aload_n 0, 1) := by decide +kernel
theorem dX5_write_48 : decode cX5_write 48 = .ok (.iload_n 1, 1) := by decide +kernel
theorem dX5_write_49 : decode cX5_write 49 = .ok (.invokevirtual 75, 3) := by decide +kernel
theorem dX5_write_52 : decode cX5_write 52 = .ok (.lastore, 1) := by decide +kernel
theorem dX5_write_53 : decode cX5_write 53 = .ok (.aload_n 0, 1) := by decide +kernel
theorem dX5_write_54 : decode cX5_write 54 = .ok (.dup, 1) := by decide +kernel
theorem dX5_write_55 : decode cX5_write 55 = .ok (.getfield 40, 3) := by decide +kernel
theorem dX5_write_58 : decode cX5_write 58 = .ok (.iconst 1, 1) := by decide +kernel
theorem dX5_write_59 : decode cX5_write 59 = .ok (.iadd, 1) := by decide +kernel
theorem dX5_write_60 : decode cX5_write 60 = .ok (.putfield 40, 3) := by decide +kernel
theorem dX5_write_63 : decode cX5_write 63 = .ok (.return_, 1) := by decide +kernel
theorem dX5_wipe_0 : decode cX5_wipe 0 = .ok (.aload_n 0, 1) := by decide +kernel
theorem dX5_wipe_1 : decode cX5_wipe 1 = .ok (.getfield 40, 3) := by decide +kernel
theorem dX5_wipe_4 : decode cX5_wipe 4 = .ok (.ifCond .ne 5, 3) := by decide +kernel
theorem dX5_wipe_7 : decode cX5_wipe 7 = .ok (.iconst 0, 1) := by decide +kernel
theorem dX5_wipe_8 : decode cX5_wipe 8 = .ok (.ireturn, 1) := by decide +kernel
theorem dX5_wipe_9 : decode cX5_wipe 9 = .ok (.aload_n 0, 1) := by decide +kernel
theorem dX5_wipe_10 : decode cX5_wipe 10 = .ok (.aload_n 0, 1) := by decide +kernel
theorem dX5_wipe_11 : decode cX5_wipe 11 = .ok (.getfield 9, 3) := by decide +kernel
theorem dX5_wipe_14 : decode cX5_wipe 14 = .ok (.invokevirtual 36, 3) := by decide +kernel
theorem dX5_wipe_17 : decode cX5_wipe 17 = .ok (.iconst 1, 1) := by decide +kernel
theorem dX5_wipe_18 : decode cX5_wipe 18 = .ok (.ireturn, 1) := by decide +kernel
theorem dX5_tear_0 : decode cX5_tear 0 = .ok (.aload_n 0, 1) := by decide +kernel
theorem dX5_tear_1 : decode cX5_tear 1 = .ok (.getfield 9, 3) := by decide +kernel
theorem dX5_tear_4 : decode cX5_tear 4 = .ok (.iconst (-1), 1) := by decide +kernel
theorem dX5_tear_5 : decode cX5_tear 5 = .ok (.if_icmp .ne 5, 3) := by decide +kernel
theorem dX5_tear_8 : decode cX5_tear 8 = .ok (.iconst 0, 1) := by decide +kernel
theorem dX5_tear_9 : decode cX5_tear 9 = .ok (.ireturn, 1) := by decide +kernel
theorem dX5_tear_10 : decode cX5_tear 10 = .ok (.aload_n 0, 1) := by decide +kernel
theorem dX5_tear_11 : decode cX5_tear 11 = .ok (.iconst (-1), 1) := by decide +kernel
theorem dX5_tear_12 : decode cX5_tear 12 = .ok (.invokevirtual 36, 3) := by decide +kernel
theorem dX5_tear_15 : decode cX5_tear 15 = .ok (.iconst 1, 1) := by decide +kernel
theorem dX5_tear_16 : decode cX5_tear 16 = .ok (.ireturn, 1) := by decide +kernel
theorem dX5_lay_0 : decode cX5_lay 0 = .ok (.iload_n 1, 1) := by decide +kernel
theorem dX5_lay_1 : decode cX5_lay 1 = .ok (.ifCond .lt 9, 3) := by decide +kernel
theorem dX5_lay_4 : decode cX5_lay 4 = .ok (.iload_n 1, 1) := by decide +kernel
theorem dX5_lay_5 : decode cX5_lay 5 = .ok (.bipush 24, 2) := by decide +kernel
theorem dX5_lay_7 : decode cX5_lay 7 = .ok (.if_icmp .le 5, 3) := by decide +kernel
theorem dX5_lay_10 : decode cX5_lay 10 = .ok (.iconst 0, 1) := by decide +kernel
theorem dX5_lay_11 : decode cX5_lay 11 = .ok (.ireturn, 1) := by decide +kernel
theorem dX5_lay_12 : decode cX5_lay 12 = .ok (.aload_n 0, 1) := by decide +kernel
theorem dX5_lay_13 : decode cX5_lay 13 = .ok (.iload_n 1, 1) := by decide +kernel
theorem dX5_lay_14 : decode cX5_lay 14 = .ok (.invokevirtual 36, 3) := by decide +kernel
theorem dX5_lay_17 : decode cX5_lay 17 = .ok (.iconst 1, 1) := by decide +kernel
theorem dX5_lay_18 : decode cX5_lay 18 = .ok (.ireturn, 1) := by decide +kernel
theorem dX5_takeCopy_0 : decode cX5_takeCopy 0 = .ok (.aload_n 0, 1) := by decide +kernel
theorem dX5_takeCopy_1 : decode cX5_takeCopy 1 = .ok (.getfield 27, 3) := by decide +kernel
theorem dX5_takeCopy_4 : decode cX5_takeCopy 4 = .ok (.aload_n 1, 1) := by decide +kernel
theorem dX5_takeCopy_5 : decode cX5_takeCopy 5 = .ok (.getfield 27, 3) := by decide +kernel
theorem dX5_takeCopy_8 : decode cX5_takeCopy 8 = .ok (.if_icmp .ne 35, 3) := by decide +kernel
theorem dX5_takeCopy_11 : decode cX5_takeCopy 11 = .ok (.aload_n 0, 1) := by decide +kernel
theorem dX5_takeCopy_12 : decode cX5_takeCopy 12 = .ok (.getfield 9, 3) := by decide +kernel
theorem dX5_takeCopy_15 : decode cX5_takeCopy 15 = .ok (.iconst (-1), 1) := by decide +kernel
theorem dX5_takeCopy_16 : decode cX5_takeCopy 16 = .ok (.if_icmp .eq 27, 3) := by decide +kernel
theorem dX5_takeCopy_19 : decode cX5_takeCopy 19 = .ok (.aload_n 1, 1) := by decide +kernel
theorem dX5_takeCopy_20 : decode cX5_takeCopy 20 = .ok (.getfield 9, 3) := by decide +kernel
theorem dX5_takeCopy_23 : decode cX5_takeCopy 23 = .ok (.iconst (-1), 1) := by decide +kernel
theorem dX5_takeCopy_24 : decode cX5_takeCopy 24 = .ok (.if_icmp .eq 19, 3) := by decide +kernel
theorem dX5_takeCopy_27 : decode cX5_takeCopy 27 = .ok (.iload_n 2, 1) := by decide +kernel
theorem dX5_takeCopy_28 : decode cX5_takeCopy 28 = .ok (.aload_n 0, 1) := by decide +kernel
theorem dX5_takeCopy_29 : decode cX5_takeCopy 29 = .ok (.getfield 9, 3) := by decide +kernel
theorem dX5_takeCopy_32 : decode cX5_takeCopy 32 = .ok (.if_icmp .gt 11, 3) := by decide +kernel
theorem dX5_takeCopy_35 : decode cX5_takeCopy 35 = .ok (.iload_n 2, 1) := by decide +kernel
theorem dX5_takeCopy_36 : decode cX5_takeCopy 36 = .ok (.aload_n 1, 1) := by decide +kernel
theorem dX5_takeCopy_37 : decode cX5_takeCopy 37 = .ok (.getfield 9, 3) := by decide +kernel
theorem dX5_takeCopy_40 : decode cX5_takeCopy 40 = .ok (.if_icmp .le 5, 3) := by decide +kernel
theorem dX5_takeCopy_43 : decode cX5_takeCopy 43 = .ok (.iconst 0, 1) := by decide +kernel
theorem dX5_takeCopy_44 : decode cX5_takeCopy 44 = .ok (.ireturn, 1) := by decide +kernel
theorem dX5_takeCopy_45 : decode cX5_takeCopy 45 = .ok (.aload_n 0, 1) := by decide +kernel
theorem dX5_takeCopy_46 : decode cX5_takeCopy 46 = .ok (.aload_n 1, 1) := by decide +kernel
theorem dX5_takeCopy_47 : decode cX5_takeCopy 47 = .ok (.iload_n 2, 1) := by decide +kernel
theorem dX5_takeCopy_48 : decode cX5_takeCopy 48 = .ok (.invokevirtual 43, 3) := by decide +kernel
theorem dX5_takeCopy_51 : decode cX5_takeCopy 51 = .ok (.aload_n 0, 1) := by decide +kernel
theorem dX5_takeCopy_52 : decode cX5_takeCopy 52 = .ok (.aload_n 0, 1) := by decide +kernel
theorem dX5_takeCopy_53 : decode cX5_takeCopy 53 = .ok (.getfield 40, 3) := by decide +kernel
theorem dX5_takeCopy_56 : decode cX5_takeCopy 56 = .ok (.aload_n 1, 1) := by decide +kernel
theorem dX5_takeCopy_57 : decode cX5_takeCopy 57 = .ok (.getfield 40, 3) := by decide +kernel
theorem dX5_takeCopy_60 : decode cX5_takeCopy 60 = .ok (.iload_n 2, 1) := by decide +kernel
theorem dX5_takeCopy_61 : decode cX5_takeCopy 61 = .ok (.invokestatic 79, 3) := by decide +kernel
theorem dX5_takeCopy_64 : decode cX5_takeCopy 64 = .ok (.invokestatic 85, 3) := by decide +kernel
theorem dX5_takeCopy_67 : decode cX5_takeCopy 67 = .ok (.putfield 40, 3) := by decide +kernel
theorem dX5_takeCopy_70 : decode cX5_takeCopy 70 = .ok (.iconst 1, 1) := by decide +kernel
theorem dX5_takeCopy_71 : decode cX5_takeCopy 71 = .ok (.ireturn, 1) := by decide +kernel
theorem dX5_tune_0 : decode cX5_tune 0 = .ok (.aload_n 0, 1) := by decide +kernel
theorem dX5_tune_1 : decode cX5_tune 1 = .ok (.getfield 30, 3) := by decide +kernel
theorem dX5_tune_4 : decode cX5_tune 4 = .ok (.iload_n 1, 1) := by decide +kernel
theorem dX5_tune_5 : decode cX5_tune 5 = .ok (.if_icmp .ne 13, 3) := by decide +kernel
theorem dX5_tune_8 : decode cX5_tune 8 = .ok (.aload_n 0, 1) := by decide +kernel
theorem dX5_tune_9 : decode cX5_tune 9 = .ok (.getfield 33, 3) := by decide +kernel
theorem dX5_tune_12 : decode cX5_tune 12 = .ok (.iload_n 2, 1) := by decide +kernel
theorem dX5_tune_13 : decode cX5_tune 13 = .ok (.if_icmp .ne 5, 3) := by decide +kernel
theorem dX5_tune_16 : decode cX5_tune 16 = .ok (.iconst 0, 1) := by decide +kernel
theorem dX5_tune_17 : decode cX5_tune 17 = .ok (.ireturn, 1) := by decide +kernel
theorem dX5_tune_18 : decode cX5_tune 18 = .ok (.aload_n 0, 1) := by decide +kernel
theorem dX5_tune_19 : decode cX5_tune 19 = .ok (.iload_n 1, 1) := by decide +kernel
theorem dX5_tune_20 : decode cX5_tune 20 = .ok (.putfield 30, 3) := by decide +kernel
theorem dX5_tune_23 : decode cX5_tune 23 = .ok (.aload_n 0, 1) := by decide +kernel
theorem dX5_tune_24 : decode cX5_tune 24 = .ok (.iload_n 2, 1) := by decide +kernel
theorem dX5_tune_25 : decode cX5_tune 25 = .ok (.putfield 33, 3) := by decide +kernel
theorem dX5_tune_28 : decode cX5_tune 28 = .ok (.iconst 1, 1) := by decide +kernel
theorem dX5_tune_29 : decode cX5_tune 29 = .ok (.ireturn, 1) := by decide +kernel
theorem dX5_moveUp_0 : decode cX5_moveUp 0 = .ok (.aload_n 0, 1) := by decide +kernel
theorem dX5_moveUp_1 : decode cX5_moveUp 1 = .ok (.getfield 40, 3) := by decide +kernel
theorem dX5_moveUp_4 : decode cX5_moveUp 4 = .ok (.ifCond .ne 4, 3) := by decide +kernel
theorem dX5_moveUp_7 : decode cX5_moveUp 7 = .ok (.return_, 1) := by decide +kernel
theorem dX5_moveUp_8 : decode cX5_moveUp 8 = .ok (.aload_n 0, 1) := by decide +kernel
theorem dX5_moveUp_9 : decode cX5_moveUp 9 = .ok (.dup, 1) := by decide +kernel
theorem dX5_moveUp_10 : decode cX5_moveUp 10 = .ok (.getfield 40, 3) := by decide +kernel
theorem dX5_moveUp_13 : decode cX5_moveUp 13 = .ok (.iconst 1, 1) := by decide +kernel
theorem dX5_moveUp_14 : decode cX5_moveUp 14 = .ok (.isub, 1) := by decide +kernel
theorem dX5_moveUp_15 : decode cX5_moveUp 15 = .ok (.putfield 40, 3) := by decide +kernel
theorem dX5_moveUp_18 : decode cX5_moveUp 18 = .ok (.aload_n 0, 1) := by decide +kernel
theorem dX5_moveUp_19 : decode cX5_moveUp 19 = .ok (.getfield 15, 3) := by decide +kernel
theorem dX5_moveUp_22 : decode cX5_moveUp 22 = .ok (.iconst 1, 1) := by decide +kernel
theorem dX5_moveUp_23 : decode cX5_moveUp 23 = .ok (.aload_n 0, 1) := by decide +kernel
theorem dX5_moveUp_24 : decode cX5_moveUp 24 = .ok (.getfield 15, 3) := by decide +kernel
theorem dX5_moveUp_27 : decode cX5_moveUp 27 = .ok (.iconst 0, 1) := by decide +kernel
theorem dX5_moveUp_28 : decode cX5_moveUp 28 = .ok (.aload_n 0, 1) := by decide +kernel
theorem dX5_moveUp_29 : decode cX5_moveUp 29 = .ok (.getfield 40, 3) := by decide +kernel
theorem dX5_moveUp_32 : decode cX5_moveUp 32 = .ok (.invokestatic 47, 3) := by decide +kernel
theorem dX5_moveUp_35 : decode cX5_moveUp 35 = .ok (.aload_n 0, 1) := by decide +kernel
theorem dX5_moveUp_36 : decode cX5_moveUp 36 = .ok (.getfield 19, 3) := by decide +kernel
theorem dX5_moveUp_39 : decode cX5_moveUp 39 = .ok (.iconst 1, 1) := by decide +kernel
theorem dX5_moveUp_40 : decode cX5_moveUp 40 = .ok (.aload_n 0, 1) := by decide +kernel
theorem dX5_moveUp_41 : decode cX5_moveUp 41 = .ok (.getfield 19, 3) := by decide +kernel
theorem dX5_moveUp_44 : decode cX5_moveUp 44 = .ok (.iconst 0, 1) := by decide +kernel
theorem dX5_moveUp_45 : decode cX5_moveUp 45 = .ok (.aload_n 0, 1) := by decide +kernel
theorem dX5_moveUp_46 : decode cX5_moveUp 46 = .ok (.getfield 40, 3) := by decide +kernel
theorem dX5_moveUp_49 : decode cX5_moveUp 49 = .ok (.invokestatic 47, 3) := by decide +kernel
theorem dX5_moveUp_52 : decode cX5_moveUp 52 = .ok (.aload_n 0, 1) := by decide +kernel
theorem dX5_moveUp_53 : decode cX5_moveUp 53 = .ok (.getfield 23, 3) := by decide +kernel
theorem dX5_moveUp_56 : decode cX5_moveUp 56 = .ok (.iconst 1, 1) := by decide +kernel
theorem dX5_moveUp_57 : decode cX5_moveUp 57 = .ok (.aload_n 0, 1) := by decide +kernel
theorem dX5_moveUp_58 : decode cX5_moveUp 58 = .ok (.getfield 23, 3) := by decide +kernel
theorem dX5_moveUp_61 : decode cX5_moveUp 61 = .ok (.iconst 0, 1) := by decide +kernel
theorem dX5_moveUp_62 : decode cX5_moveUp 62 = .ok (.aload_n 0, 1) := by decide +kernel
theorem dX5_moveUp_63 : decode cX5_moveUp 63 = .ok (.getfield 40, 3) := by decide +kernel
theorem dX5_moveUp_66 : decode cX5_moveUp 66 = .ok (.invokestatic 47, 3) := by decide +kernel
theorem dX5_moveUp_69 : decode cX5_moveUp 69 = .ok (.aload_n 0, 1) := by decide +kernel
theorem dX5_moveUp_70 : decode cX5_moveUp 70 = .ok (.aload_n 0, 1) := by decide +kernel
theorem dX5_moveUp_71 : decode cX5_moveUp 71 = .ok (.getfield 40, 3) := by decide +kernel
theorem dX5_moveUp_74 : decode cX5_moveUp 74 = .ok (.invokevirtual 53, 3) := by decide +kernel
theorem dX5_moveUp_77 : decode cX5_moveUp 77 = .ok (.return_, 1) := by decide +kernel
theorem dX5_readAt_0 : decode cX5_readAt 0 = .ok (.aload_n 0, 1) := by decide +kernel
theorem dX5_readAt_1 : decode cX5_readAt 1 = .ok (.invokevirtual 64, 3) := by decide +kernel
theorem dX5_readAt_4 : decode cX5_readAt 4 = .ok (.ifCond .eq 21, 3) := by decide +kernel
theorem dX5_readAt_7 : decode cX5_readAt 7 = .ok (.aload_n 0, 1) := by decide +kernel
theorem dX5_readAt_8 : decode cX5_readAt 8 = .ok (.getfield 23, 3) := by decide +kernel
theorem dX5_readAt_11 : decode cX5_readAt 11 = .ok (.iload_n 1, 1) := by decide +kernel
theorem dX5_readAt_12 : decode cX5_readAt 12 = .ok (.baload, 1) := by decide +kernel
theorem dX5_readAt_13 : decode cX5_readAt 13 = .ok (.aload_n 0, 1) := by decide +kernel
theorem dX5_readAt_14 : decode cX5_readAt 14 = .ok (.getfield 19, 3) := by decide +kernel
theorem dX5_readAt_17 : decode cX5_readAt 17 = .ok (.iload_n 1, 1) := by decide +kernel
theorem dX5_readAt_18 : decode cX5_readAt 18 = .ok (.daload, 1) := by decide +kernel
theorem dX5_readAt_19 : decode cX5_readAt 19 = .ok (.invokestatic 88, 3) := by decide +kernel
theorem dX5_readAt_22 : decode cX5_readAt 22 = .ok (.goto 10, 3) := by decide +kernel
theorem dX5_readAt_25 : decode cX5_readAt 25 = .ok (.aload_n 0, 1) := by decide +kernel
theorem dX5_readAt_26 : decode cX5_readAt 26 = .ok (.getfield 15, 3) := by decide +kernel
theorem dX5_readAt_29 : decode cX5_readAt 29 = .ok (.iload_n 1, 1) := by decide +kernel
theorem dX5_readAt_30 : decode cX5_readAt 30 = .ok (.laload, 1) := by decide +kernel
theorem dX5_readAt_31 : decode cX5_readAt 31 = .ok (.l2i, 1) := by decide +kernel
theorem dX5_readAt_32 : decode cX5_readAt 32 = .ok (.ireturn, 1) := by decide +kernel
theorem dX5_strangeRecords_0 : decode cX5_strangeRecords 0 = .ok (.iconst 0, 1) := by decide +kernel
theorem dX5_strangeRecords_1 : decode cX5_strangeRecords 1 = .ok (.istore_n 2, 1) := by decide +kernel
theorem dX5_strangeRecords_2 : decode cX5_strangeRecords 2 = .ok (.iconst 0, 1) := by decide +kernel
theorem dX5_strangeRecords_3 : decode cX5_strangeRecords 3 = .ok (.istore_n 3, 1) := by decide +kernel
theorem dX5_strangeRecords_4 : decode cX5_strangeRecords 4 = .ok (.iload_n 3, 1) := by decide +kernel
theorem dX5_strangeRecords_5 : decode cX5_strangeRecords 5 = .ok (.aload_n 0, 1) := by decide +kernel
theorem dX5_strangeRecords_6 : decode cX5_strangeRecords 6 = .ok (.getfield 40, 3) := by decide +kernel
theorem dX5_strangeRecords_9 : decode cX5_strangeRecords 9 = .ok (.if_icmp .ge 44, 3) := by decide +kernel
theorem dX5_strangeRecords_12 : decode cX5_strangeRecords 12 = .ok (.aload_n 0, 1) := by decide +kernel
theorem dX5_strangeRecords_13 : decode cX5_strangeRecords 13 = .ok (.getfield 23, 3) := by decide +kernel
theorem dX5_strangeRecords_16 : decode cX5_strangeRecords 16 = .ok (.iload_n 3, 1) := by decide +kernel
theorem dX5_strangeRecords_17 : decode cX5_strangeRecords 17 = .ok (.baload, 1) := by decide +kernel
theorem dX5_strangeRecords_18 : decode cX5_strangeRecords 18 = .ok (.iconst 2, 1) := by decide +kernel
theorem dX5_strangeRecords_19 : decode cX5_strangeRecords 19 = .ok (.if_icmp .ne 7, 3) := by decide +kernel
theorem dX5_strangeRecords_22 : decode cX5_strangeRecords 22 = .ok (.iconst 1, 1) := by decide +kernel
theorem dX5_strangeRecords_23 : decode cX5_strangeRecords 23 = .ok (.goto 4, 3) := by decide +kernel
theorem dX5_strangeRecords_26 : decode cX5_strangeRecords 26 = .ok (.iconst 0, 1) := by decide +kernel
theorem dX5_strangeRecords_27 : decode cX5_strangeRecords 27 = .ok (.istore 4, 2) := by decide +kernel
theorem dX5_strangeRecords_29 : decode cX5_strangeRecords 29 = .ok (.aload_n 0, 1) := by decide +kernel
theorem dX5_strangeRecords_30 : decode cX5_strangeRecords 30 = .ok (.getfield 23, 3) := by decide +kernel
theorem dX5_strangeRecords_33 : decode cX5_strangeRecords 33 = .ok (.iload_n 3, 1) := by decide +kernel
theorem dX5_strangeRecords_34 : decode cX5_strangeRecords 34 = .ok (.baload, 1) := by decide +kernel
theorem dX5_strangeRecords_35 : decode cX5_strangeRecords 35 = .ok (.ifCond .eq 12, 3) := by decide +kernel
theorem dX5_strangeRecords_38 : decode cX5_strangeRecords 38 = .ok (.iload 4, 2) := by decide +kernel
theorem dX5_strangeRecords_40 : decode cX5_strangeRecords 40 = .ok (.iload_n 1, 1) := by decide +kernel
theorem dX5_strangeRecords_41 : decode cX5_strangeRecords 41 = .ok (.if_icmp .eq 6, 3) := by decide +kernel
theorem dX5_strangeRecords_44 : decode cX5_strangeRecords 44 = .ok (.iinc 2 1, 3) := by decide +kernel
theorem dX5_strangeRecords_47 : decode cX5_strangeRecords 47 = .ok (.iinc 3 1, 3) := by decide +kernel
theorem dX5_strangeRecords_50 : decode cX5_strangeRecords 50 = .ok (.goto (-46), 3) := by decide +kernel
theorem dX5_strangeRecords_53 : decode cX5_strangeRecords 53 = .ok (.iload_n 2, 1) := by decide +kernel
theorem dX5_strangeRecords_54 : decode cX5_strangeRecords 54 = .ok (.ireturn, 1) := by decide +kernel
theorem dX5_extremePlace_0 : decode cX5_extremePlace 0 = .ok (.iconst (-1), 1) := by decide +kernel
theorem dX5_extremePlace_1 : decode cX5_extremePlace 1 = .ok (.istore_n 2, 1) := by decide +kernel
theorem dX5_extremePlace_2 : decode cX5_extremePlace 2 = .ok (.iconst 0, 1) := by decide +kernel
theorem dX5_extremePlace_3 : decode cX5_extremePlace 3 = .ok (.istore_n 3, 1) := by decide +kernel
theorem dX5_extremePlace_4 : decode cX5_extremePlace 4 = .ok (.iload_n 3, 1) := by decide +kernel
theorem dX5_extremePlace_5 : decode cX5_extremePlace 5 = .ok (.aload_n 0, 1) := by decide +kernel
theorem dX5_extremePlace_6 : decode cX5_extremePlace 6 = .ok (.getfield 40, 3) := by decide +kernel
theorem dX5_extremePlace_9 : decode cX5_extremePlace 9 = .ok (.if_icmp .ge 54, 3) := by decide +kernel
theorem dX5_extremePlace_12 : decode cX5_extremePlace 12 = .ok (.aload_n 0, 1) := by decide +kernel
theorem dX5_extremePlace_13 : decode cX5_extremePlace 13 = .ok (.getfield 23, 3) := by decide +kernel
theorem dX5_extremePlace_16 : decode cX5_extremePlace 16 = .ok (.iload_n 3, 1) := by decide +kernel
theorem dX5_extremePlace_17 : decode cX5_extremePlace 17 = .ok (.baload, 1) := by decide +kernel
theorem dX5_extremePlace_18 : decode cX5_extremePlace 18 = .ok (.iconst 2, 1) := by decide +kernel
theorem dX5_extremePlace_19 : decode cX5_extremePlace 19 = .ok (.if_icmp .ne 6, 3) := by decide +kernel
theorem dX5_extremePlace_22 : decode cX5_extremePlace 22 = .ok (.goto 35, 3) := by decide +kernel
theorem dX5_extremePlace_25 : decode cX5_extremePlace 25 = .ok (.iload_n 2, 1) := by decide +kernel
theorem dX5_extremePlace_26 : decode cX5_extremePlace 26 = .ok (.iconst (-1), 1) := by decide +kernel
theorem dX5_extremePlace_27 : decode cX5_extremePlace 27 = .ok (.if_icmp .eq 28, 3) := by decide +kernel
theorem dX5_extremePlace_30 : decode cX5_extremePlace 30 = .ok (.iload_n 1, 1) := by decide +kernel
theorem dX5_extremePlace_31 : decode cX5_extremePlace 31 = .ok (.ifCond .eq 15, 3) := by decide +kernel
theorem dX5_extremePlace_34 : decode cX5_extremePlace 34 = .ok (.aload_n 0, 1) := by decide +kernel
theorem dX5_extremePlace_35 : decode cX5_extremePlace 35 = .ok (.iload_n 3, 1) := by decide +kernel
theorem dX5_extremePlace_36 : decode cX5_extremePlace 36 = .ok (.iload_n 2, 1) := by decide +kernel
theorem dX5_extremePlace_37 : decode cX5_extremePlace 37 = .ok (.invokevirtual 92, 3) := by decide +kernel
theorem dX5_extremePlace_40 : decode cX5_extremePlace 40 = .ok (.ifCond .eq 17, 3) := by decide +kernel
theorem dX5_extremePlace_43 : decode cX5_extremePlace 43 = .ok (.goto 12, 3) := by decide +kernel
theorem dX5_extremePlace_46 : decode cX5_extremePlace 46 = .ok (.aload_n 0, 1) := by decide +kernel
theorem dX5_extremePlace_47 : decode cX5_extremePlace 47 = .ok (.iload_n 2, 1) := by decide +kernel
theorem dX5_extremePlace_48 : decode cX5_extremePlace 48 = .ok (.iload_n 3, 1) := by decide +kernel
theorem dX5_extremePlace_49 : decode cX5_extremePlace 49 = .ok (.invokevirtual 92, 3) := by decide +kernel
theorem dX5_extremePlace_52 : decode cX5_extremePlace 52 = .ok (.ifCond .eq 5, 3) := by decide +kernel
theorem dX5_extremePlace_55 : decode cX5_extremePlace 55 = .ok (.iload_n 3, 1) := by decide +kernel
theorem dX5_extremePlace_56 : decode cX5_extremePlace 56 = .ok (.istore_n 2, 1) := by decide +kernel
theorem dX5_extremePlace_57 : decode cX5_extremePlace 57 = .ok (.iinc 3 1, 3) := by decide +kernel
theorem dX5_extremePlace_60 : decode cX5_extremePlace 60 = .ok (.goto (-56), 3) := by decide +kernel
theorem dX5_extremePlace_63 : decode cX5_extremePlace 63 = .ok (.iload_n 2, 1) := by decide +kernel
theorem dX5_extremePlace_64 : decode cX5_extremePlace 64 = .ok (.ireturn, 1) := by decide +kernel
theorem dX5_isLess_0 : decode cX5_isLess 0 = .ok (.aload_n 0, 1) := by decide +kernel
theorem dX5_isLess_1 : decode cX5_isLess 1 = .ok (.getfield 23, 3) := by decide +kernel
theorem dX5_isLess_4 : decode cX5_isLess 4 = .ok (.iload_n 1, 1) := by decide +kernel
theorem dX5_isLess_5 : decode cX5_isLess 5 = .ok (.baload, 1) := by decide +kernel
theorem dX5_isLess_6 : decode cX5_isLess 6 = .ok (.aload_n 0, 1) := by decide +kernel
theorem dX5_isLess_7 : decode cX5_isLess 7 = .ok (.getfield 23, 3) := by decide +kernel
theorem dX5_isLess_10 : decode cX5_isLess 10 = .ok (.iload_n 2, 1) := by decide +kernel
theorem dX5_isLess_11 : decode cX5_isLess 11 = .ok (.baload, 1) := by decide +kernel
theorem dX5_isLess_12 : decode cX5_isLess 12 = .ok (.if_icmp .eq 24, 3) := by decide +kernel
theorem dX5_isLess_15 : decode cX5_isLess 15 = .ok (.aload_n 0, 1) := by decide +kernel
theorem dX5_isLess_16 : decode cX5_isLess 16 = .ok (.getfield 23, 3) := by decide +kernel
theorem dX5_isLess_19 : decode cX5_isLess 19 = .ok (.iload_n 1, 1) := by decide +kernel
theorem dX5_isLess_20 : decode cX5_isLess 20 = .ok (.baload, 1) := by decide +kernel
theorem dX5_isLess_21 : decode cX5_isLess 21 = .ok (.aload_n 0, 1) := by decide +kernel
theorem dX5_isLess_22 : decode cX5_isLess 22 = .ok (.getfield 23, 3) := by decide +kernel
theorem dX5_isLess_25 : decode cX5_isLess 25 = .ok (.iload_n 2, 1) := by decide +kernel
theorem dX5_isLess_26 : decode cX5_isLess 26 = .ok (.baload, 1) := by decide +kernel
theorem dX5_isLess_27 : decode cX5_isLess 27 = .ok (.if_icmp .ge 7, 3) := by decide +kernel
theorem dX5_isLess_30 : decode cX5_isLess 30 = .ok (.iconst 1, 1) := by decide +kernel
theorem dX5_isLess_31 : decode cX5_isLess 31 = .ok (.goto 4, 3) := by decide +kernel
theorem dX5_isLess_34 : decode cX5_isLess 34 = .ok (.iconst 0, 1) := by decide +kernel
theorem dX5_isLess_35 : decode cX5_isLess 35 = .ok (.ireturn, 1) := by decide +kernel
theorem dX5_isLess_36 : decode cX5_isLess 36 = .ok (.aload_n 0, 1) := by decide +kernel
theorem dX5_isLess_37 : decode cX5_isLess 37 = .ok (.getfield 15, 3) := by decide +kernel
theorem dX5_isLess_40 : decode cX5_isLess 40 = .ok (.iload_n 1, 1) := by decide +kernel
theorem dX5_isLess_41 : decode cX5_isLess 41 = .ok (.laload, 1) := by decide +kernel
theorem dX5_isLess_42 : decode cX5_isLess 42 = .ok (.aload_n 0, 1) := by decide +kernel
theorem dX5_isLess_43 : decode cX5_isLess 43 = .ok (.getfield 15, 3) := by decide +kernel
theorem dX5_isLess_46 : decode cX5_isLess 46 = .ok (.iload_n 2, 1) := by decide +kernel
theorem dX5_isLess_47 : decode cX5_isLess 47 = .ok (.laload, 1) := by decide +kernel
theorem dX5_isLess_48 : decode cX5_isLess 48 = .ok (.lcmp, 1) := by decide +kernel
theorem dX5_isLess_49 : decode cX5_isLess 49 = .ok (.ifCond .lt 19, 3) := by decide +kernel
theorem dX5_isLess_52 : decode cX5_isLess 52 = .ok (.aload_n 0, 1) := by decide +kernel
theorem dX5_isLess_53 : decode cX5_isLess 53 = .ok (.getfield 19, 3) := by decide +kernel
theorem dX5_isLess_56 : decode cX5_isLess 56 = .ok (.iload_n 1, 1) := by decide +kernel
theorem dX5_isLess_57 : decode cX5_isLess 57 = .ok (.daload, 1) := by decide +kernel
theorem dX5_isLess_58 : decode cX5_isLess 58 = .ok (.aload_n 0, 1) := by decide +kernel
theorem dX5_isLess_59 : decode cX5_isLess 59 = .ok (.getfield 19, 3) := by decide +kernel
theorem dX5_isLess_62 : decode cX5_isLess 62 = .ok (.iload_n 2, 1) := by decide +kernel
theorem dX5_isLess_63 : decode cX5_isLess 63 = .ok (.daload, 1) := by decide +kernel
theorem dX5_isLess_64 : decode cX5_isLess 64 = .ok (.dcmp .g, 1) := by decide +kernel
theorem dX5_isLess_65 : decode cX5_isLess 65 = .ok (.ifCond .ge 7, 3) := by decide +kernel
theorem dX5_isLess_68 : decode cX5_isLess 68 = .ok (.iconst 1, 1) := by decide +kernel
theorem dX5_isLess_69 : decode cX5_isLess 69 = .ok (.goto 4, 3) := by decide +kernel
theorem dX5_isLess_72 : decode cX5_isLess 72 = .ok (.iconst 0, 1) := by decide +kernel
theorem dX5_isLess_73 : decode cX5_isLess 73 = .ok (.ireturn, 1) := by decide +kernel
theorem dX5_isLike_0 : decode cX5_isLike 0 = .ok (.aload_n 0, 1) := by decide +kernel
theorem dX5_isLike_1 : decode cX5_isLike 1 = .ok (.getfield 9, 3) := by decide +kernel
theorem dX5_isLike_4 : decode cX5_isLike 4 = .ok (.iconst (-1), 1) := by decide +kernel
theorem dX5_isLike_5 : decode cX5_isLike 5 = .ok (.if_icmp .eq 36, 3) := by decide +kernel
theorem dX5_isLike_8 : decode cX5_isLike 8 = .ok (.aload_n 0, 1) := by decide +kernel
theorem dX5_isLike_9 : decode cX5_isLike 9 = .ok (.getfield 27, 3) := by decide +kernel
theorem dX5_isLike_12 : decode cX5_isLike 12 = .ok (.aload_n 1, 1) := by decide +kernel
theorem dX5_isLike_13 : decode cX5_isLike 13 = .ok (.getfield 27, 3) := by decide +kernel
theorem dX5_isLike_16 : decode cX5_isLike 16 = .ok (.if_icmp .ne 25, 3) := by decide +kernel
theorem dX5_isLike_19 : decode cX5_isLike 19 = .ok (.aload_n 0, 1) := by decide +kernel
theorem dX5_isLike_20 : decode cX5_isLike 20 = .ok (.getfield 9, 3) := by decide +kernel
theorem dX5_isLike_23 : decode cX5_isLike 23 = .ok (.aload_n 1, 1) := by decide +kernel
theorem dX5_isLike_24 : decode cX5_isLike 24 = .ok (.getfield 9, 3) := by decide +kernel
theorem dX5_isLike_27 : decode cX5_isLike 27 = .ok (.if_icmp .ne 14, 3) := by decide +kernel
theorem dX5_isLike_30 : decode cX5_isLike 30 = .ok (.aload_n 0, 1) := by decide +kernel
theorem dX5_isLike_31 : decode cX5_isLike 31 = .ok (.getfield 40, 3) := by decide +kernel
theorem dX5_isLike_34 : decode cX5_isLike 34 = .ok (.aload_n 1, 1) := by decide +kernel
theorem dX5_isLike_35 : decode cX5_isLike 35 = .ok (.getfield 40, 3) := by decide +kernel
theorem dX5_isLike_38 : decode cX5_isLike 38 = .ok (.if_icmp .eq 5, 3) := by decide +kernel
theorem dX5_isLike_41 : decode cX5_isLike 41 = .ok (.iconst 0, 1) := by decide +kernel
theorem dX5_isLike_42 : decode cX5_isLike 42 = .ok (.ireturn, 1) := by decide +kernel
theorem dX5_isLike_43 : decode cX5_isLike 43 = .ok (.iconst 0, 1) := by decide +kernel
theorem dX5_isLike_44 : decode cX5_isLike 44 = .ok (.istore_n 2, 1) := by decide +kernel
theorem dX5_isLike_45 : decode cX5_isLike 45 = .ok (.iload_n 2, 1) := by decide +kernel
theorem dX5_isLike_46 : decode cX5_isLike 46 = .ok (.aload_n 0, 1) := by decide +kernel
theorem dX5_isLike_47 : decode cX5_isLike 47 = .ok (.getfield 40, 3) := by decide +kernel
theorem dX5_isLike_50 : decode cX5_isLike 50 = .ok (.if_icmp .ge 24, 3) := by decide +kernel
theorem dX5_isLike_53 : decode cX5_isLike 53 = .ok (.aload_n 0, 1) := by decide +kernel
theorem dX5_isLike_54 : decode cX5_isLike 54 = .ok (.iload_n 2, 1) := by decide +kernel
theorem dX5_isLike_55 : decode cX5_isLike 55 = .ok (.invokevirtual 96, 3) := by decide +kernel
theorem dX5_isLike_58 : decode cX5_isLike 58 = .ok (.aload_n 1, 1) := by decide +kernel
theorem dX5_isLike_59 : decode cX5_isLike 59 = .ok (.iload_n 2, 1) := by decide +kernel
theorem dX5_isLike_60 : decode cX5_isLike 60 = .ok (.invokevirtual 96, 3) := by decide +kernel
theorem dX5_isLike_63 : decode cX5_isLike 63 = .ok (.if_icmp .eq 5, 3) := by decide +kernel
theorem dX5_isLike_66 : decode cX5_isLike 66 = .ok (.iconst 0, 1) := by decide +kernel
theorem dX5_isLike_67 : decode cX5_isLike 67 = .ok (.ireturn, 1) := by decide +kernel
theorem dX5_isLike_68 : decode cX5_isLike 68 = .ok (.iinc 2 1, 3) := by decide +kernel
theorem dX5_isLike_71 : decode cX5_isLike 71 = .ok (.goto (-26), 3) := by decide +kernel
theorem dX5_isLike_74 : decode cX5_isLike 74 = .ok (.iconst 1, 1) := by decide +kernel
theorem dX5_isLike_75 : decode cX5_isLike 75 = .ok (.ireturn, 1) := by decide +kernel
theorem dX5_outOf_0 : decode cX5_outOf 0 = .ok (.aload_n 0, 1) := by decide +kernel
theorem dX5_outOf_1 : decode cX5_outOf 1 = .ok (.invokevirtual 64, 3) := by decide +kernel
theorem dX5_outOf_4 : decode cX5_outOf 4 = .ok (.ifCond .eq 19, 3) := by decide +kernel
theorem dX5_outOf_7 : decode cX5_outOf 7 = .ok (.aload_n 0, 1) := by decide +kernel
theorem dX5_outOf_8 : decode cX5_outOf 8 = .ok (.iload_n 1, 1) := by decide +kernel
theorem dX5_outOf_9 : decode cX5_outOf 9 = .ok (.invokevirtual 71, 3) := by decide +kernel
theorem dX5_outOf_12 : decode cX5_outOf 12 = .ok (.aload_n 0, 1) := by decide +kernel
theorem dX5_outOf_13 : decode cX5_outOf 13 = .ok (.iload_n 1, 1) := by decide +kernel
theorem dX5_outOf_14 : decode cX5_outOf 14 = .ok (.invokevirtual 67, 3) := by decide +kernel
theorem dX5_outOf_17 : decode cX5_outOf 17 = .ok (.invokestatic 88, 3) := by decide +kernel
theorem dX5_outOf_20 : decode cX5_outOf 20 = .ok (.goto 9, 3) := by decide +kernel
theorem dX5_outOf_23 : decode cX5_outOf 23 = .ok (.aload_n 0, 1) := by decide +kernel
theorem dX5_outOf_24 : decode cX5_outOf 24 = .ok (.iload_n 1, 1) := by decide +kernel
theorem dX5_outOf_25 : decode cX5_outOf 25 = .ok (.invokevirtual 75, 3) := by decide +kernel
theorem dX5_outOf_28 : decode cX5_outOf 28 = .ok (.l2i, 1) := by decide +kernel
theorem dX5_outOf_29 : decode cX5_outOf 29 = .ok (.ireturn, 1) := by decide +kernel
theorem dX5_isReal_0 : decode cX5_isReal 0 = .ok (.aload_n 0, 1) := by decide +kernel
theorem dX5_isReal_1 : decode cX5_isReal 1 = .ok (.getfield 27, 3) := by decide +kernel
theorem dX5_isReal_4 : decode cX5_isReal 4 = .ok (.iconst 5, 1) := by decide +kernel
theorem dX5_isReal_5 : decode cX5_isReal 5 = .ok (.if_icmp .eq 12, 3) := by decide +kernel
theorem dX5_isReal_8 : decode cX5_isReal 8 = .ok (.aload_n 0, 1) := by decide +kernel
theorem dX5_isReal_9 : decode cX5_isReal 9 = .ok (.getfield 27, 3) := by decide +kernel
theorem dX5_isReal_12 : decode cX5_isReal 12 = .ok (.bipush 6, 2) := by decide +kernel
theorem dX5_isReal_14 : decode cX5_isReal 14 = .ok (.if_icmp .ne 7, 3) := by decide +kernel
theorem dX5_isReal_17 : decode cX5_isReal 17 = .ok (.iconst 1, 1) := by decide +kernel
theorem dX5_isReal_18 : decode cX5_isReal 18 = .ok (.goto 4, 3) := by decide +kernel
theorem dX5_isReal_21 : decode cX5_isReal 21 = .ok (.iconst 0, 1) := by decide +kernel
theorem dX5_isReal_22 : decode cX5_isReal 22 = .ok (.ireturn, 1) := by decide +kernel
theorem dX5_readOf_0 : decode cX5_readOf 0 = .ok (.iload_n 0, 1) := by decide +kernel
theorem dX5_readOf_1 : decode cX5_readOf 1 = .ok (.tableswitch 36 (-1) 1 #[33, 27, 30], 27) := by decide +kernel
theorem dX5_readOf_28 : decode cX5_readOf 28 = .ok (.dload_n 1, 1) := by decide +kernel
theorem dX5_readOf_29 : decode cX5_readOf 29 = .ok (.d2i, 1) := by decide +kernel
theorem dX5_readOf_30 : decode cX5_readOf 30 = .ok (.ireturn, 1) := by decide +kernel
theorem dX5_readOf_31 : decode cX5_readOf 31 = .ok (.ldc 99, 2) := by decide +kernel
theorem dX5_readOf_33 : decode cX5_readOf 33 = .ok (.ireturn, 1) := by decide +kernel
theorem dX5_readOf_34 : decode cX5_readOf 34 = .ok (.ldc 100, 2) := by decide +kernel
theorem dX5_readOf_36 : decode cX5_readOf 36 = .ok (.ireturn, 1) := by decide +kernel
theorem dX5_readOf_37 : decode cX5_readOf 37 = .ok (.iconst 0, 1) := by decide +kernel
theorem dX5_readOf_38 : decode cX5_readOf 38 = .ok (.ireturn, 1) := by decide +kernel
theorem dX5_wholeTaken_0 : decode cX5_wholeTaken 0 = .ok (.aload_n 0, 1) := by decide +kernel
theorem dX5_wholeTaken_1 : decode cX5_wholeTaken 1 = .ok (.getfield 27, 3) := by decide +kernel
theorem dX5_wholeTaken_4 : decode cX5_wholeTaken 4 = .ok (.bipush 7, 2) := by decide +kernel
theorem dX5_wholeTaken_6 : decode cX5_wholeTaken 6 = .ok (.if_icmp .ne 18, 3) := by decide +kernel
theorem dX5_wholeTaken_9 : decode cX5_wholeTaken 9 = .ok (.iload_n 1, 1) := by decide +kernel
theorem dX5_wholeTaken_10 : decode cX5_wholeTaken 10 = .ok (.aload_n 0, 1) := by decide +kernel
theorem dX5_wholeTaken_11 : decode cX5_wholeTaken 11 = .ok (.getfield 30, 3) := by decide +kernel
theorem dX5_wholeTaken_14 : decode cX5_wholeTaken 14 = .ok (.imul, 1) := by decide +kernel
theorem dX5_wholeTaken_15 : decode cX5_wholeTaken 15 = .ok (.aload_n 0, 1) := by decide +kernel
theorem dX5_wholeTaken_16 : decode cX5_wholeTaken 16 = .ok (.getfield 33, 3) := by decide +kernel
theorem dX5_wholeTaken_19 : decode cX5_wholeTaken 19 = .ok (.iadd, 1) := by decide +kernel
theorem dX5_wholeTaken_20 : decode cX5_wholeTaken 20 = .ok (.iconst 1, 1) := by decide +kernel
theorem dX5_wholeTaken_21 : decode cX5_wholeTaken 21 = .ok (.iand, 1) := by decide +kernel
theorem dX5_wholeTaken_22 : decode cX5_wholeTaken 22 = .ok (.i2l, 1) := by decide +kernel
theorem dX5_wholeTaken_23 : decode cX5_wholeTaken 23 = .ok (.lreturn, 1) := by decide +kernel
theorem dX5_wholeTaken_24 : decode cX5_wholeTaken 24 = .ok (.aload_n 0, 1) := by decide +kernel
theorem dX5_wholeTaken_25 : decode cX5_wholeTaken 25 = .ok (.getfield 33, 3) := by decide +kernel
theorem dX5_wholeTaken_28 : decode cX5_wholeTaken 28 = .ok (.ifCond .ne 5, 3) := by decide +kernel
theorem dX5_wholeTaken_31 : decode cX5_wholeTaken 31 = .ok (.lconst 0, 1) := by decide +kernel
theorem dX5_wholeTaken_32 : decode cX5_wholeTaken 32 = .ok (.lreturn, 1) := by decide +kernel
theorem dX5_wholeTaken_33 : decode cX5_wholeTaken 33 = .ok (.aload_n 0, 1) := by decide +kernel
theorem dX5_wholeTaken_34 : decode cX5_wholeTaken 34 = .ok (.getfield 27, 3) := by decide +kernel
theorem dX5_wholeTaken_37 : decode cX5_wholeTaken 37 = .ok (.tableswitch 86 0 3 #[31, 45, 59, 73], 31) := by decide +kernel
theorem dX5_wholeTaken_68 : decode cX5_wholeTaken 68 = .ok (.iload_n 1, 1) := by decide +kernel
theorem dX5_wholeTaken_69 : decode cX5_wholeTaken 69 = .ok (.aload_n 0, 1) := by decide +kernel
theorem dX5_wholeTaken_70 : decode cX5_wholeTaken 70 = .ok (.getfield 30, 3) := by decide +kernel
theorem dX5_wholeTaken_73 : decode cX5_wholeTaken 73 = .ok (.imul, 1) := by decide +kernel
theorem dX5_wholeTaken_74 : decode cX5_wholeTaken 74 = .ok (.aload_n 0, 1) := by decide +kernel
theorem dX5_wholeTaken_75 : decode cX5_wholeTaken 75 = .ok (.getfield 33, 3) := by decide +kernel
theorem dX5_wholeTaken_78 : decode cX5_wholeTaken 78 = .ok (.idiv, 1) := by decide +kernel
theorem dX5_wholeTaken_79 : decode cX5_wholeTaken 79 = .ok (.i2b, 1) := by decide +kernel
theorem dX5_wholeTaken_80 : decode cX5_wholeTaken 80 = .ok (.i2l, 1) := by decide +kernel
theorem dX5_wholeTaken_81 : decode cX5_wholeTaken 81 = .ok (.lreturn, 1) := by decide +kernel
theorem dX5_wholeTaken_82 : decode cX5_wholeTaken 82 = .ok (.iload_n 1, 1) := by decide +kernel
theorem dX5_wholeTaken_83 : decode cX5_wholeTaken 83 = .ok (.aload_n 0, 1) := by decide +kernel
theorem dX5_wholeTaken_84 : decode cX5_wholeTaken 84 = .ok (.getfield 30, 3) := by decide +kernel
theorem dX5_wholeTaken_87 : decode cX5_wholeTaken 87 = .ok (.imul, 1) := by decide +kernel
theorem dX5_wholeTaken_88 : decode cX5_wholeTaken 88 = .ok (.aload_n 0, 1) := by decide +kernel
theorem dX5_wholeTaken_89 : decode cX5_wholeTaken 89 = .ok (.getfield 33, 3) := by decide +kernel
theorem dX5_wholeTaken_92 : decode cX5_wholeTaken 92 = .ok (.idiv, 1) := by decide +kernel
theorem dX5_wholeTaken_93 : decode cX5_wholeTaken 93 = .ok (.i2s, 1) := by decide +kernel
theorem dX5_wholeTaken_94 : decode cX5_wholeTaken 94 = .ok (.i2l, 1) := by decide +kernel
theorem dX5_wholeTaken_95 : decode cX5_wholeTaken 95 = .ok (.lreturn, 1) := by decide +kernel
theorem dX5_wholeTaken_96 : decode cX5_wholeTaken 96 = .ok (.iload_n 1, 1) := by decide +kernel
theorem dX5_wholeTaken_97 : decode cX5_wholeTaken 97 = .ok (.aload_n 0, 1) := by decide +kernel
theorem dX5_wholeTaken_98 : decode cX5_wholeTaken 98 = .ok (.getfield 30, 3) := by decide +kernel
theorem dX5_wholeTaken_101 : decode cX5_wholeTaken 101 = .ok (.imul, 1) := by decide +kernel
theorem dX5_wholeTaken_102 : decode cX5_wholeTaken 102 = .ok (.aload_n 0, 1) := by decide +kernel
theorem dX5_wholeTaken_103 : decode cX5_wholeTaken 103 = .ok (.getfield 33, 3) := by decide +kernel
theorem dX5_wholeTaken_106 : decode cX5_wholeTaken 106 = .ok (.idiv, 1) := by decide +kernel
theorem dX5_wholeTaken_107 : decode cX5_wholeTaken 107 = .ok (.i2c, 1) := by decide +kernel
theorem dX5_wholeTaken_108 : decode cX5_wholeTaken 108 = .ok (.i2l, 1) := by decide +kernel
theorem dX5_wholeTaken_109 : decode cX5_wholeTaken 109 = .ok (.lreturn, 1) := by decide +kernel
theorem dX5_wholeTaken_110 : decode cX5_wholeTaken 110 = .ok (.iload_n 1, 1) := by decide +kernel
theorem dX5_wholeTaken_111 : decode cX5_wholeTaken 111 = .ok (.aload_n 0, 1) := by decide +kernel
theorem dX5_wholeTaken_112 : decode cX5_wholeTaken 112 = .ok (.getfield 30, 3) := by decide +kernel
theorem dX5_wholeTaken_115 : decode cX5_wholeTaken 115 = .ok (.imul, 1) := by decide +kernel
theorem dX5_wholeTaken_116 : decode cX5_wholeTaken 116 = .ok (.aload_n 0, 1) := by decide +kernel
theorem dX5_wholeTaken_117 : decode cX5_wholeTaken 117 = .ok (.getfield 33, 3) := by decide +kernel
theorem dX5_wholeTaken_120 : decode cX5_wholeTaken 120 = .ok (.idiv, 1) := by decide +kernel
theorem dX5_wholeTaken_121 : decode cX5_wholeTaken 121 = .ok (.i2l, 1) := by decide +kernel
theorem dX5_wholeTaken_122 : decode cX5_wholeTaken 122 = .ok (.lreturn, 1) := by decide +kernel
theorem dX5_wholeTaken_123 : decode cX5_wholeTaken 123 = .ok (.iload_n 1, 1) := by decide +kernel
theorem dX5_wholeTaken_124 : decode cX5_wholeTaken 124 = .ok (.i2l, 1) := by decide +kernel
theorem dX5_wholeTaken_125 : decode cX5_wholeTaken 125 = .ok (.aload_n 0, 1) := by decide +kernel
theorem dX5_wholeTaken_126 : decode cX5_wholeTaken 126 = .ok (.getfield 30, 3) := by decide +kernel
theorem dX5_wholeTaken_129 : decode cX5_wholeTaken 129 = .ok (.i2l, 1) := by decide +kernel
theorem dX5_wholeTaken_130 : decode cX5_wholeTaken 130 = .ok (.lmul, 1) := by decide +kernel
theorem dX5_wholeTaken_131 : decode cX5_wholeTaken 131 = .ok (.aload_n 0, 1) := by decide +kernel
theorem dX5_wholeTaken_132 : decode cX5_wholeTaken 132 = .ok (.getfield 33, 3) := by decide +kernel
theorem dX5_wholeTaken_135 : decode cX5_wholeTaken 135 = .ok (.i2l, 1) := by decide +kernel
theorem dX5_wholeTaken_136 : decode cX5_wholeTaken 136 = .ok (.ldiv, 1) := by decide +kernel
theorem dX5_wholeTaken_137 : decode cX5_wholeTaken 137 = .ok (.lreturn, 1) := by decide +kernel
theorem dX5_realTaken_0 : decode cX5_realTaken 0 = .ok (.aload_n 0, 1) := by decide +kernel
theorem dX5_realTaken_1 : decode cX5_realTaken 1 = .ok (.getfield 33, 3) := by decide +kernel
theorem dX5_realTaken_4 : decode cX5_realTaken 4 = .ok (.ifCond .ne 5, 3) := by decide +kernel
theorem dX5_realTaken_7 : decode cX5_realTaken 7 = .ok (.dconst 0, 1) := by decide +kernel
theorem dX5_realTaken_8 : decode cX5_realTaken 8 = .ok (.dreturn, 1) := by decide +kernel
theorem dX5_realTaken_9 : decode cX5_realTaken 9 = .ok (.aload_n 0, 1) := by decide +kernel
theorem dX5_realTaken_10 : decode cX5_realTaken 10 = .ok (.getfield 27, 3) := by decide +kernel
theorem dX5_realTaken_13 : decode cX5_realTaken 13 = .ok (.iconst 5, 1) := by decide +kernel
theorem dX5_realTaken_14 : decode cX5_realTaken 14 = .ok (.if_icmp .ne 19, 3) := by decide +kernel
theorem dX5_realTaken_17 : decode cX5_realTaken 17 = .ok (.iload_n 1, 1) := by decide +kernel
theorem dX5_realTaken_18 : decode cX5_realTaken 18 = .ok (.i2f, 1) := by decide +kernel
theorem dX5_realTaken_19 : decode cX5_realTaken 19 = .ok (.aload_n 0, 1) := by decide +kernel
theorem dX5_realTaken_20 : decode cX5_realTaken 20 = .ok (.getfield 30, 3) := by decide +kernel
theorem dX5_realTaken_23 : decode cX5_realTaken 23 = .ok (.i2f, 1) := by decide +kernel
theorem dX5_realTaken_24 : decode cX5_realTaken 24 = .ok (.fmul, 1) := by decide +kernel
theorem dX5_realTaken_25 : decode cX5_realTaken 25 = .ok (.aload_n 0, 1) := by decide +kernel
theorem dX5_realTaken_26 : decode cX5_realTaken 26 = .ok (.getfield 33, 3) := by decide +kernel
theorem dX5_realTaken_29 : decode cX5_realTaken 29 = .ok (.i2f, 1) := by decide +kernel
theorem dX5_realTaken_30 : decode cX5_realTaken 30 = .ok (.fdiv, 1) := by decide +kernel
theorem dX5_realTaken_31 : decode cX5_realTaken 31 = .ok (.f2d, 1) := by decide +kernel
theorem dX5_realTaken_32 : decode cX5_realTaken 32 = .ok (.dreturn, 1) := by decide +kernel
theorem dX5_realTaken_33 : decode cX5_realTaken 33 = .ok (.iload_n 1, 1) := by decide +kernel
theorem dX5_realTaken_34 : decode cX5_realTaken 34 = .ok (.i2d, 1) := by decide +kernel
theorem dX5_realTaken_35 : decode cX5_realTaken 35 = .ok (.aload_n 0, 1) := by decide +kernel
theorem dX5_realTaken_36 : decode cX5_realTaken 36 = .ok (.getfield 30, 3) := by decide +kernel
theorem dX5_realTaken_39 : decode cX5_realTaken 39 = .ok (.i2d, 1) := by decide +kernel
theorem dX5_realTaken_40 : decode cX5_realTaken 40 = .ok (.dmul, 1) := by decide +kernel
theorem dX5_realTaken_41 : decode cX5_realTaken 41 = .ok (.aload_n 0, 1) := by decide +kernel
theorem dX5_realTaken_42 : decode cX5_realTaken 42 = .ok (.getfield 33, 3) := by decide +kernel
theorem dX5_realTaken_45 : decode cX5_realTaken 45 = .ok (.i2d, 1) := by decide +kernel
theorem dX5_realTaken_46 : decode cX5_realTaken 46 = .ok (.ddiv, 1) := by decide +kernel
theorem dX5_realTaken_47 : decode cX5_realTaken 47 = .ok (.dreturn, 1) := by decide +kernel
theorem dX5_markTaken_0 : decode cX5_markTaken 0 = .ok (.aload_n 0, 1) := by decide +kernel
theorem dX5_markTaken_1 : decode cX5_markTaken 1 = .ok (.getfield 33, 3) := by decide +kernel
theorem dX5_markTaken_4 : decode cX5_markTaken 4 = .ok (.ifCond .eq 5, 3) := by decide +kernel
theorem dX5_markTaken_7 : decode cX5_markTaken 7 = .ok (.iconst 0, 1) := by decide +kernel
theorem dX5_markTaken_8 : decode cX5_markTaken 8 = .ok (.ireturn, 1) := by decide +kernel
theorem dX5_markTaken_9 : decode cX5_markTaken 9 = .ok (.iload_n 1, 1) := by decide +kernel
theorem dX5_markTaken_10 : decode cX5_markTaken 10 = .ok (.ifCond .eq 10, 3) := by decide +kernel
theorem dX5_markTaken_13 : decode cX5_markTaken 13 = .ok (.aload_n 0, 1) := by decide +kernel
theorem dX5_markTaken_14 : decode cX5_markTaken 14 = .ok (.getfield 30, 3) := by decide +kernel
theorem dX5_markTaken_17 : decode cX5_markTaken 17 = .ok (.ifCond .ne 5, 3) := by decide +kernel
theorem dX5_markTaken_20 : decode cX5_markTaken 20 = .ok (.iconst 2, 1) := by decide +kernel
theorem dX5_markTaken_21 : decode cX5_markTaken 21 = .ok (.ireturn, 1) := by decide +kernel
theorem dX5_markTaken_22 : decode cX5_markTaken 22 = .ok (.iload_n 1, 1) := by decide +kernel
theorem dX5_markTaken_23 : decode cX5_markTaken 23 = .ok (.ifCond .le 7, 3) := by decide +kernel
theorem dX5_markTaken_26 : decode cX5_markTaken 26 = .ok (.iconst 1, 1) := by decide +kernel
theorem dX5_markTaken_27 : decode cX5_markTaken 27 = .ok (.goto 4, 3) := by decide +kernel
theorem dX5_markTaken_30 : decode cX5_markTaken 30 = .ok (.iconst (-1), 1) := by decide +kernel
theorem dX5_markTaken_31 : decode cX5_markTaken 31 = .ok (.ireturn, 1) := by decide +kernel
theorem dX6_init_0 : decode cX6_init 0 = .ok (.aload_n 0, 1) := by decide +kernel
theorem dX6_init_1 : decode cX6_init 1 = .ok (.invokespecial 3, 3) := by decide +kernel
theorem dX6_init_4 : decode cX6_init 4 = .ok (.aload_n 0, 1) := by decide +kernel
theorem dX6_init_5 : decode cX6_init 5 = .ok (.bipush 8, 2) := by decide +kernel
theorem dX6_init_7 : decode cX6_init 7 = .ok (.newarray .int, 2) := by decide +kernel
theorem dX6_init_9 : decode cX6_init 9 = .ok (.putfield 9, 3) := by decide +kernel
theorem dX6_init_12 : decode cX6_init 12 = .ok (.aload_n 0, 1) := by decide +kernel
theorem dX6_init_13 : decode cX6_init 13 = .ok (.bipush 8, 2) := by decide +kernel
theorem dX6_init_15 : decode cX6_init 15 = .ok (.newarray .int, 2) := by decide +kernel
theorem dX6_init_17 : decode cX6_init 17 = .ok (.putfield 15, 3) := by decide +kernel
theorem dX6_init_20 : decode cX6_init 20 = .ok (.return_, 1) := by decide +kernel
theorem dX6_search_0 : decode cX6_search 0 = .ok (.aload_n 0, 1) := by decide +kernel
theorem dX6_search_1 : decode cX6_search 1 = .ok (.aload_n 1, 1) := by decide +kernel
theorem dX6_search_2 : decode cX6_search 2 = .ok (.putfield 18, 3) := by decide +kernel
theorem dX6_search_5 : decode cX6_search 5 = .ok (.aload_n 0, 1) := by decide +kernel
theorem dX6_search_6 : decode cX6_search 6 = .ok (.aload_n 2, 1) := by decide +kernel
theorem dX6_search_7 : decode cX6_search 7 = .ok (.putfield 22, 3) := by decide +kernel
theorem dX6_search_10 : decode cX6_search 10 = .ok (.aload_n 0, 1) := by decide +kernel
theorem dX6_search_11 : decode cX6_search 11 = .ok (.iload 4, 2) := by decide +kernel
theorem dX6_search_13 : decode cX6_search 13 = .ok (.putfield 26, 3) := by decide +kernel
theorem dX6_search_16 : decode cX6_search 16 = .ok (.aload_n 0, 1) := by decide +kernel
theorem dX6_search_17 : decode cX6_search 17 = .ok (.iconst 0, 1) := by decide +kernel
theorem dX6_search_18 : decode cX6_search 18 = .ok (.putfield 30, 3) := by decide +kernel
theorem dX6_search_21 : decode cX6_search 21 = .ok (.aload_n 0, 1) := by decide +kernel
theorem dX6_search_22 : decode cX6_search 22 = .ok (.iconst 0, 1) := by decide +kernel
theorem dX6_search_23 : decode cX6_search 23 = .ok (.putfield 33, 3) := by decide +kernel
theorem dX6_search_26 : decode cX6_search 26 = .ok (.aload_n 0, 1) := by decide +kernel
theorem dX6_search_27 : decode cX6_search 27 = .ok (.iload_n 3, 1) := by decide +kernel
theorem dX6_search_28 : decode cX6_search 28 = .ok (.iconst 0, 1) := by decide +kernel
theorem dX6_search_29 : decode cX6_search 29 = .ok (.iconst 0, 1) := by decide +kernel
theorem dX6_search_30 : decode cX6_search 30 = .ok (.iload 5, 2) := by decide +kernel
theorem dX6_search_32 : decode cX6_search 32 = .ok (.iload 5, 2) := by decide +kernel
theorem dX6_search_34 : decode cX6_search 34 = .ok (.invokestatic 36, 3) := by decide +kernel
theorem dX6_search_37 : decode cX6_search 37 = .ok (.return_, 1) := by decide +kernel
theorem dX6_goOn_0 : decode cX6_goOn 0 = .ok (.iload_n 2, 1) := by decide +kernel
theorem dX6_goOn_1 : decode cX6_goOn 1 = .ok (.bipush 8, 2) := by decide +kernel
theorem dX6_goOn_3 : decode cX6_goOn 3 = .ok (.if_icmp .ge 32, 3) := by decide +kernel
theorem dX6_goOn_6 : decode cX6_goOn 6 = .ok (.aload_n 0, 1) := by decide +kernel
theorem dX6_goOn_7 : decode cX6_goOn 7 = .ok (.getfield 18, 3) := by decide +kernel
theorem dX6_goOn_10 : decode cX6_goOn 10 = .ok (.ifnull 25, 3) := by decide +kernel
theorem dX6_goOn_13 : decode cX6_goOn 13 = .ok (.aload_n 0, 1) := by decide +kernel
theorem dX6_goOn_14 : decode cX6_goOn 14 = .ok (.getfield 22, 3) := by decide +kernel
theorem dX6_goOn_17 : decode cX6_goOn 17 = .ok (.ifnull 18, 3) := by decide +kernel
theorem dX6_goOn_20 : decode cX6_goOn 20 = .ok (.aload_n 0, 1) := by decide +kernel
theorem dX6_goOn_21 : decode cX6_goOn 21 = .ok (.getfield 18, 3) := by decide +kernel
theorem dX6_goOn_24 : decode cX6_goOn 24 = .ok (.getfield 40, 3) := by decide +kernel
theorem dX6_goOn_27 : decode cX6_goOn 27 = .ok (.iload_n 1, 1) := by decide +kernel
theorem dX6_goOn_28 : decode cX6_goOn 28 = .ok (.aaload, 1) := by decide +kernel
theorem dX6_goOn_29 : decode cX6_goOn 29 = .ok (.invokevirtual 46, 3) := by decide +kernel
theorem dX6_goOn_32 : decode cX6_goOn 32 = .ok (.ifCond .eq 4, 3) := by decide +kernel
theorem dX6_goOn_35 : decode cX6_goOn 35 = .ok (.return_, 1) := by decide +kernel
theorem dX6_goOn_36 : decode cX6_goOn 36 = .ok (.aload_n 0, 1) := by decide +kernel
theorem dX6_goOn_37 : decode cX6_goOn 37 = .ok (.getfield 15, 3) := by decide +kernel
theorem dX6_goOn_40 : decode cX6_goOn 40 = .ok (.iload_n 2, 1) := by decide +kernel
theorem dX6_goOn_41 : decode cX6_goOn 41 = .ok (.iload_n 1, 1) := by decide +kernel
theorem dX6_goOn_42 : decode cX6_goOn 42 = .ok (.iastore, 1) := by decide +kernel
theorem dX6_goOn_43 : decode cX6_goOn 43 = .ok (.aload_n 0, 1) := by decide +kernel
theorem dX6_goOn_44 : decode cX6_goOn 44 = .ok (.getfield 18, 3) := by decide +kernel
theorem dX6_goOn_47 : decode cX6_goOn 47 = .ok (.getfield 40, 3) := by decide +kernel
theorem dX6_goOn_50 : decode cX6_goOn 50 = .ok (.iload_n 1, 1) := by decide +kernel
theorem dX6_goOn_51 : decode cX6_goOn 51 = .ok (.aaload, 1) := by decide +kernel
theorem dX6_goOn_52 : decode cX6_goOn 52 = .ok (.iload 4, 2) := by decide +kernel
theorem dX6_goOn_54 : decode cX6_goOn 54 = .ok (.invokevirtual 52, 3) := by decide +kernel
theorem dX6_goOn_57 : decode cX6_goOn 57 = .ok (.istore 6, 2) := by decide +kernel
theorem dX6_goOn_59 : decode cX6_goOn 59 = .ok (.iload_n 1, 1) := by decide +kernel
theorem dX6_goOn_60 : decode cX6_goOn 60 = .ok (.aload_n 0, 1) := by decide +kernel
theorem dX6_goOn_61 : decode cX6_goOn 61 = .ok (.getfield 26, 3) := by decide +kernel
theorem dX6_goOn_64 : decode cX6_goOn 64 = .ok (.if_icmp .ne 18, 3) := by decide +kernel
theorem dX6_goOn_67 : decode cX6_goOn 67 = .ok (.aload_n 0, 1) := by decide +kernel
theorem dX6_goOn_68 : decode cX6_goOn 68 = .ok (.iload_n 2, 1) := by decide +kernel
theorem dX6_goOn_69 : decode cX6_goOn 69 = .ok (.iconst 1, 1) := by decide +kernel
theorem dX6_goOn_70 : decode cX6_goOn 70 = .ok (.iadd, 1) := by decide +kernel
theorem dX6_goOn_71 : decode cX6_goOn 71 = .ok (.iload 5, 2) := by decide +kernel
theorem dX6_goOn_73 : decode cX6_goOn 73 = .ok (.iload 6, 2) := by decide +kernel
theorem dX6_goOn_75 : decode cX6_goOn 75 = .ok (.invokestatic 56, 3) := by decide +kernel
theorem dX6_goOn_78 : decode cX6_goOn 78 = .ok (.invokevirtual 60, 3) := by decide +kernel
theorem dX6_goOn_81 : decode cX6_goOn 81 = .ok (.return_, 1) := by decide +kernel
theorem dX6_goOn_82 : decode cX6_goOn 82 = .ok (.iload_n 3, 1) := by decide +kernel
theorem dX6_goOn_83 : decode cX6_goOn 83 = .ok (.iconst 1, 1) := by decide +kernel
theorem dX6_goOn_84 : decode cX6_goOn 84 = .ok (.iload_n 1, 1) := by decide +kernel
theorem dX6_goOn_85 : decode cX6_goOn 85 = .ok (.ishl, 1) := by decide +kernel
theorem dX6_goOn_86 : decode cX6_goOn 86 = .ok (.ior, 1) := by decide +kernel
theorem dX6_goOn_87 : decode cX6_goOn 87 = .ok (.istore 7, 2) := by decide +kernel
theorem dX6_goOn_89 : decode cX6_goOn 89 = .ok (.iconst 0, 1) := by decide +kernel
theorem dX6_goOn_90 : decode cX6_goOn 90 = .ok (.istore 8, 2) := by decide +kernel
theorem dX6_goOn_92 : decode cX6_goOn 92 = .ok (.iload 8, 2) := by decide +kernel
theorem dX6_goOn_94 : decode cX6_goOn 94 = .ok (.aload_n 0, 1) := by decide +kernel
theorem dX6_goOn_95 : decode cX6_goOn 95 = .ok (.getfield 22, 3) := by decide +kernel
theorem dX6_goOn_98 : decode cX6_goOn 98 = .ok (.getfield 64, 3) := by decide +kernel
theorem dX6_goOn_101 : decode cX6_goOn 101 = .ok (.if_icmp .ge 47, 3) := by decide +kernel
theorem dX6_goOn_104 : decode cX6_goOn 104 = .ok (.iload 7, 2) := by decide +kernel
theorem dX6_goOn_106 : decode cX6_goOn 106 = .ok (.iload 8, 2) := by decide +kernel
theorem dX6_goOn_108 : decode cX6_goOn 108 = .ok (.ishr, 1) := by decide +kernel
theorem dX6_goOn_109 : decode cX6_goOn 109 = .ok (.iconst 1, 1) := by decide +kernel
theorem dX6_goOn_110 : decode cX6_goOn 110 = .ok (.iand, 1) := by decide +kernel
theorem dX6_goOn_111 : decode cX6_goOn 111 = .ok (.ifCond .ne 31, 3) := by decide +kernel
theorem dX6_goOn_114 : decode cX6_goOn 114 = .ok (.aload_n 0, 1) := by decide +kernel
theorem dX6_goOn_115 : decode cX6_goOn 115 = .ok (.getfield 22, 3) := by decide +kernel
theorem dX6_goOn_118 : decode cX6_goOn 118 = .ok (.iload_n 1, 1) := by decide +kernel
theorem dX6_goOn_119 : decode cX6_goOn 119 = .ok (.iload 8, 2) := by decide +kernel
theorem dX6_goOn_121 : decode cX6_goOn 121 = .ok (.invokevirtual 68, 3) := by decide +kernel
theorem dX6_goOn_124 : decode cX6_goOn 124 = .ok (.ifCond .eq 18, 3) := by decide +kernel
theorem dX6_goOn_127 : decode cX6_goOn 127 = .ok (.aload_n 0, 1) := by decide +kernel
theorem dX6_goOn_128 : decode cX6_goOn 128 = .ok (.iload 8, 2) := by decide +kernel
theorem dX6_goOn_130 : decode cX6_goOn 130 = .ok (.iload_n 2, 1) := by decide +kernel
theorem dX6_goOn_131 : decode cX6_goOn 131 = .ok (.iconst 1, 1) := by decide +kernel
theorem dX6_goOn_132 : decode cX6_goOn 132 = .ok (.iadd, 1) := by decide +kernel
theorem dX6_goOn_133 : decode cX6_goOn 133 = .ok (.iload 7, 2) := by decide +kernel
theorem dX6_goOn_135 : decode cX6_goOn 135 = .ok (.iload 6, 2) := by decide +kernel
theorem dX6_goOn_137 : decode cX6_goOn 137 = .ok (.iload 5, 2) := by decide +kernel
theorem dX6_goOn_139 : decode cX6_goOn 139 = .ok (.invokestatic 36, 3) := by decide +kernel
theorem dX6_goOn_142 : decode cX6_goOn 142 = .ok (.iinc 8 1, 3) := by decide +kernel
theorem dX6_goOn_145 : decode cX6_goOn 145 = .ok (.goto (-53), 3) := by decide +kernel
theorem dX6_goOn_148 : decode cX6_goOn 148 = .ok (.return_, 1) := by decide +kernel
theorem dX6_weigh_0 : decode cX6_weigh 0 = .ok (.aload_n 0, 1) := by decide +kernel
theorem dX6_weigh_1 : decode cX6_weigh 1 = .ok (.getfield 30, 3) := by decide +kernel
theorem dX6_weigh_4 : decode cX6_weigh 4 = .ok (.ifCond .eq 27, 3) := by decide +kernel
theorem dX6_weigh_7 : decode cX6_weigh 7 = .ok (.iload_n 2, 1) := by decide +kernel
theorem dX6_weigh_8 : decode cX6_weigh 8 = .ok (.aload_n 0, 1) := by decide +kernel
theorem dX6_weigh_9 : decode cX6_weigh 9 = .ok (.getfield 33, 3) := by decide +kernel
theorem dX6_weigh_12 : decode cX6_weigh 12 = .ok (.if_icmp .lt 19, 3) := by decide +kernel
theorem dX6_weigh_15 : decode cX6_weigh 15 = .ok (.iload_n 2, 1) := by decide +kernel
theorem dX6_weigh_16 : decode cX6_weigh 16 = .ok (.aload_n 0, 1) := by decide +kernel
theorem dX6_weigh_17 : decode cX6_weigh 17 = .ok (.getfield 33, 3) := by decide +kernel
theorem dX6_weigh_20 : decode cX6_weigh 20 = .ok (.if_icmp .ne 15, 3) := by decide +kernel
theorem dX6_weigh_23 : decode cX6_weigh 23 = .ok (.iload_n 1, 1) := by decide +kernel
theorem dX6_weigh_24 : decode cX6_weigh 24 = .ok (.aload_n 0, 1) := by decide +kernel
theorem dX6_weigh_25 : decode cX6_weigh 25 = .ok (.getfield 30, 3) := by decide +kernel
theorem dX6_weigh_28 : decode cX6_weigh 28 = .ok (.if_icmp .ge 7, 3) := by decide +kernel
theorem dX6_weigh_31 : decode cX6_weigh 31 = .ok (.iconst 1, 1) := by decide +kernel
theorem dX6_weigh_32 : decode cX6_weigh 32 = .ok (.goto 4, 3) := by decide +kernel
theorem dX6_weigh_35 : decode cX6_weigh 35 = .ok (.iconst 0, 1) := by decide +kernel
theorem dX6_weigh_36 : decode cX6_weigh 36 = .ok (.istore_n 3, 1) := by decide +kernel
theorem dX6_weigh_37 : decode cX6_weigh 37 = .ok (.iload_n 3, 1) := by decide +kernel
theorem dX6_weigh_38 : decode cX6_weigh 38 = .ok (.ifCond .eq 27, 3) := by decide +kernel
theorem dX6_weigh_41 : decode cX6_weigh 41 = .ok (.aload_n 0, 1) := by decide +kernel
theorem dX6_weigh_42 : decode cX6_weigh 42 = .ok (.iload_n 1, 1) := by decide +kernel
theorem dX6_weigh_43 : decode cX6_weigh 43 = .ok (.putfield 30, 3) := by decide +kernel
theorem dX6_weigh_46 : decode cX6_weigh 46 = .ok (.aload_n 0, 1) := by decide +kernel
theorem dX6_weigh_47 : decode cX6_weigh 47 = .ok (.iload_n 2, 1) := by decide +kernel
theorem dX6_weigh_48 : decode cX6_weigh 48 = .ok (.putfield 33, 3) := by decide +kernel
theorem dX6_weigh_51 : decode cX6_weigh 51 = .ok (.aload_n 0, 1) := by decide +kernel
theorem dX6_weigh_52 : decode cX6_weigh 52 = .ok (.getfield 15, 3) := by decide +kernel
theorem dX6_weigh_55 : decode cX6_weigh 55 = .ok (.iconst 0, 1) := by decide +kernel
theorem dX6_weigh_56 : decode cX6_weigh 56 = .ok (.aload_n 0, 1) := by decide +kernel
theorem dX6_weigh_57 : decode cX6_weigh 57 = .ok (.getfield 9, 3) := by decide +kernel
theorem dX6_weigh_60 : decode cX6_weigh 60 = .ok (.iconst 0, 1) := by decide +kernel
theorem dX6_weigh_61 : decode cX6_weigh 61 = .ok (.iload_n 1, 1) := by decide +kernel
theorem dX6_weigh_62 : decode cX6_weigh 62 = .ok (.invokestatic 72, 3) := by decide +kernel
theorem dX6_weigh_65 : decode cX6_weigh 65 = .ok (.return_, 1) := by decide +kernel
theorem dX7_init_0 : decode cX7_init 0 = .ok (.aload_n 0, 1) := by decide +kernel
theorem dX7_init_1 : decode cX7_init 1 = .ok (.invokespecial 3, 3) := by decide +kernel
theorem dX7_init_4 : decode cX7_init 4 = .ok (.aload_n 0, 1) := by decide +kernel
theorem dX7_init_5 : decode cX7_init 5 = .ok (.new 9, 3) := by decide +kernel
theorem dX7_init_8 : decode cX7_init 8 = .ok (.dup, 1) := by decide +kernel
theorem dX7_init_9 : decode cX7_init 9 = .ok (.invokespecial 11, 3) := by decide +kernel
theorem dX7_init_12 : decode cX7_init 12 = .ok (.putfield 12, 3) := by decide +kernel
theorem dX7_init_15 : decode cX7_init 15 = .ok (.return_, 1) := by decide +kernel
theorem dX7_play_0 : decode cX7_play 0 = .ok (.aload_n 0, 1) := by decide +kernel
theorem dX7_play_1 : decode cX7_play 1 = .ok (.getfield 12, 3) := by decide +kernel
theorem dX7_play_4 : decode cX7_play 4 = .ok (.aload_n 1, 1) := by decide +kernel
theorem dX7_play_5 : decode cX7_play 5 = .ok (.invokevirtual 18, 3) := by decide +kernel
theorem dX7_play_8 : decode cX7_play 8 = .ok (.aload_n 0, 1) := by decide +kernel
theorem dX7_play_9 : decode cX7_play 9 = .ok (.getfield 12, 3) := by decide +kernel
theorem dX7_play_12 : decode cX7_play 12 = .ok (.iconst 0, 1) := by decide +kernel
theorem dX7_play_13 : decode cX7_play 13 = .ok (.putfield 22, 3) := by decide +kernel
theorem dX7_play_16 : decode cX7_play 16 = .ok (.aload_n 0, 1) := by decide +kernel
theorem dX7_play_17 : decode cX7_play 17 = .ok (.getfield 12, 3) := by decide +kernel
theorem dX7_play_20 : decode cX7_play 20 = .ok (.iconst 0, 1) := by decide +kernel
theorem dX7_play_21 : decode cX7_play 21 = .ok (.putfield 26, 3) := by decide +kernel
theorem dX7_play_24 : decode cX7_play 24 = .ok (.aload_n 0, 1) := by decide +kernel
theorem dX7_play_25 : decode cX7_play 25 = .ok (.iload 4, 2) := by decide +kernel
theorem dX7_play_27 : decode cX7_play 27 = .ok (.putfield 29, 3) := by decide +kernel
theorem dX7_play_30 : decode cX7_play 30 = .ok (.iconst 0, 1) := by decide +kernel
theorem dX7_play_31 : decode cX7_play 31 = .ok (.istore 7, 2) := by decide +kernel
theorem dX7_play_33 : decode cX7_play 33 = .ok (.iload 7, 2) := by decide +kernel
theorem dX7_play_35 : decode cX7_play 35 = .ok (.iload 5, 2) := by decide +kernel
theorem dX7_play_37 : decode cX7_play 37 = .ok (.if_icmp .ge 17, 3) := by decide +kernel
theorem dX7_play_40 : decode cX7_play 40 = .ok (.aload_n 0, 1) := by decide +kernel
theorem dX7_play_41 : decode cX7_play 41 = .ok (.aload_n 2, 1) := by decide +kernel
theorem dX7_play_42 : decode cX7_play 42 = .ok (.aload_n 3, 1) := by decide +kernel
theorem dX7_play_43 : decode cX7_play 43 = .ok (.iload 6, 2) := by decide +kernel
theorem dX7_play_45 : decode cX7_play 45 = .ok (.invokevirtual 32, 3) := by decide +kernel
theorem dX7_play_48 : decode cX7_play 48 = .ok (.iinc 7 1, 3) := by decide +kernel
theorem dX7_play_51 : decode cX7_play 51 = .ok (.goto (-18), 3) := by decide +kernel
theorem dX7_play_54 : decode cX7_play 54 = .ok (.return_, 1) := by decide +kernel
theorem dX7_playDay_0 : decode cX7_playDay 0 = .ok (.aload_n 1, 1) := by decide +kernel
theorem dX7_playDay_1 : decode cX7_playDay 1 = .ok (.getfield 36, 3) := by decide +kernel
theorem dX7_playDay_4 : decode cX7_playDay 4 = .ok (.ifCond .le 31, 3) := by decide +kernel
theorem dX7_playDay_7 : decode cX7_playDay 7 = .ok (.aload_n 0, 1) := by decide +kernel
theorem dX7_playDay_8 : decode cX7_playDay 8 = .ok (.aload_n 1, 1) := by decide +kernel
theorem dX7_playDay_9 : decode cX7_playDay 9 = .ok (.getfield 36, 3) := by decide +kernel
theorem dX7_playDay_12 : decode cX7_playDay 12 = .ok (.invokevirtual 41, 3) := by decide +kernel
theorem dX7_playDay_15 : decode cX7_playDay 15 = .ok (.istore 4, 2) := by decide +kernel
theorem dX7_playDay_17 : decode cX7_playDay 17 = .ok (.aload_n 0, 1) := by decide +kernel
theorem dX7_playDay_18 : decode cX7_playDay 18 = .ok (.getfield 12, 3) := by decide +kernel
theorem dX7_playDay_21 : decode cX7_playDay 21 = .ok (.iload 4, 2) := by decide +kernel
theorem dX7_playDay_23 : decode cX7_playDay 23 = .ok (.aload_n 0, 1) := by decide +kernel
theorem dX7_playDay_24 : decode cX7_playDay 24 = .ok (.sipush 10000, 3) := by decide +kernel
theorem dX7_playDay_27 : decode cX7_playDay 27 = .ok (.invokevirtual 41, 3) := by decide +kernel
theorem dX7_playDay_30 : decode cX7_playDay 30 = .ok (.aload_n 2, 1) := by decide +kernel
theorem dX7_playDay_31 : decode cX7_playDay 31 = .ok (.invokevirtual 45, 3) := by decide +kernel
theorem dX7_playDay_34 : decode cX7_playDay 34 = .ok (.pop, 1) := by decide +kernel
theorem dX7_playDay_35 : decode cX7_playDay 35 = .ok (.aload_n 1, 1) := by decide +kernel
theorem dX7_playDay_36 : decode cX7_playDay 36 = .ok (.getfield 49, 3) := by decide +kernel
theorem dX7_playDay_39 : decode cX7_playDay 39 = .ok (.ifCond .le 46, 3) := by decide +kernel
theorem dX7_playDay_42 : decode cX7_playDay 42 = .ok (.aload_n 0, 1) := by decide +kernel
theorem dX7_playDay_43 : decode cX7_playDay 43 = .ok (.bipush 16, 2) := by decide +kernel
theorem dX7_playDay_45 : decode cX7_playDay 45 = .ok (.invokevirtual 41, 3) := by decide +kernel
theorem dX7_playDay_48 : decode cX7_playDay 48 = .ok (.iload_n 3, 1) := by decide +kernel
theorem dX7_playDay_49 : decode cX7_playDay 49 = .ok (.if_icmp .ge 36, 3) := by decide +kernel
theorem dX7_playDay_52 : decode cX7_playDay 52 = .ok (.aload_n 0, 1) := by decide +kernel
theorem dX7_playDay_53 : decode cX7_playDay 53 = .ok (.aload_n 1, 1) := by decide +kernel
theorem dX7_playDay_54 : decode cX7_playDay 54 = .ok (.getfield 49, 3) := by decide +kernel
theorem dX7_playDay_57 : decode cX7_playDay 57 = .ok (.invokevirtual 41, 3) := by decide +kernel
theorem dX7_playDay_60 : decode cX7_playDay 60 = .ok (.istore 4, 2) := by decide +kernel
theorem dX7_playDay_62 : decode cX7_playDay 62 = .ok (.aload_n 0, 1) := by decide +kernel
theorem dX7_playDay_63 : decode cX7_playDay 63 = .ok (.getfield 12, 3) := by decide +kernel
theorem dX7_playDay_66 : decode cX7_playDay 66 = .ok (.aload_n 1, 1) := by decide +kernel
theorem dX7_playDay_67 : decode cX7_playDay 67 = .ok (.getfield 52, 3) := by decide +kernel
theorem dX7_playDay_70 : decode cX7_playDay 70 = .ok (.iload 4, 2) := by decide +kernel
theorem dX7_playDay_72 : decode cX7_playDay 72 = .ok (.iaload, 1) := by decide +kernel
theorem dX7_playDay_73 : decode cX7_playDay 73 = .ok (.aload_n 1, 1) := by decide +kernel
theorem dX7_playDay_74 : decode cX7_playDay 74 = .ok (.getfield 56, 3) := by decide +kernel
theorem dX7_playDay_77 : decode cX7_playDay 77 = .ok (.iload 4, 2) := by decide +kernel
theorem dX7_playDay_79 : decode cX7_playDay 79 = .ok (.iaload, 1) := by decide +kernel
theorem dX7_playDay_80 : decode cX7_playDay 80 = .ok (.aload_n 2, 1) := by decide +kernel
theorem dX7_playDay_81 : decode cX7_playDay 81 = .ok (.invokevirtual 59, 3) := by decide +kernel
theorem dX7_playDay_84 : decode cX7_playDay 84 = .ok (.pop, 1) := by decide +kernel
theorem dX7_playDay_85 : decode cX7_playDay 85 = .ok (.aload_n 0, 1) := by decide +kernel
theorem dX7_playDay_86 : decode cX7_playDay 86 = .ok (.getfield 12, 3) := by decide +kernel
theorem dX7_playDay_89 : decode cX7_playDay 89 = .ok (.invokevirtual 62, 3) := by decide +kernel
theorem dX7_playDay_92 : decode cX7_playDay 92 = .ok (.return_, 1) := by decide +kernel
theorem dX7_drawnBy_0 : decode cX7_drawnBy 0 = .ok (.aload_n 0, 1) := by decide +kernel
theorem dX7_drawnBy_1 : decode cX7_drawnBy 1 = .ok (.aload_n 0, 1) := by decide +kernel
theorem dX7_drawnBy_2 : decode cX7_drawnBy 2 = .ok (.getfield 29, 3) := by decide +kernel
theorem dX7_drawnBy_5 : decode cX7_drawnBy 5 = .ok (.ldc 65, 2) := by decide +kernel
theorem dX7_drawnBy_7 : decode cX7_drawnBy 7 = .ok (.imul, 1) := by decide +kernel
theorem dX7_drawnBy_8 : decode cX7_drawnBy 8 = .ok (.sipush 12345, 3) := by decide +kernel
theorem dX7_drawnBy_11 : decode cX7_drawnBy 11 = .ok (.iadd, 1) := by decide +kernel
theorem dX7_drawnBy_12 : decode cX7_drawnBy 12 = .ok (.putfield 29, 3) := by decide +kernel
theorem dX7_drawnBy_15 : decode cX7_drawnBy 15 = .ok (.iload_n 1, 1) := by decide +kernel
theorem dX7_drawnBy_16 : decode cX7_drawnBy 16 = .ok (.ifCond .le 19, 3) := by decide +kernel
theorem dX7_drawnBy_19 : decode cX7_drawnBy 19 = .ok (.aload_n 0, 1) := by decide +kernel
theorem dX7_drawnBy_20 : decode cX7_drawnBy 20 = .ok (.getfield 29, 3) := by decide +kernel
theorem dX7_drawnBy_23 : decode cX7_drawnBy 23 = .ok (.bipush 16, 2) := by decide +kernel
theorem dX7_drawnBy_25 : decode cX7_drawnBy 25 = .ok (.iushr, 1) := by decide +kernel
theorem dX7_drawnBy_26 : decode cX7_drawnBy 26 = .ok (.sipush 32767, 3) := by decide +kernel
theorem dX7_drawnBy_29 : decode cX7_drawnBy 29 = .ok (.iand, 1) := by decide +kernel
theorem dX7_drawnBy_30 : decode cX7_drawnBy 30 = .ok (.iload_n 1, 1) := by decide +kernel
theorem dX7_drawnBy_31 : decode cX7_drawnBy 31 = .ok (.irem, 1) := by decide +kernel
theorem dX7_drawnBy_32 : decode cX7_drawnBy 32 = .ok (.goto 4, 3) := by decide +kernel
theorem dX7_drawnBy_35 : decode cX7_drawnBy 35 = .ok (.iconst 0, 1) := by decide +kernel
theorem dX7_drawnBy_36 : decode cX7_drawnBy 36 = .ok (.ireturn, 1) := by decide +kernel
theorem dX8_init_0 : decode cX8_init 0 = .ok (.aload_n 0, 1) := by decide +kernel
theorem dX8_init_1 : decode cX8_init 1 = .ok (.invokespecial 3, 3) := by decide +kernel
theorem dX8_init_4 : decode cX8_init 4 = .ok (.aload_n 0, 1) := by decide +kernel
theorem dX8_init_5 : decode cX8_init 5 = .ok (.bipush 8, 2) := by decide +kernel
theorem dX8_init_7 : decode cX8_init 7 = .ok (.anewarray 9, 3) := by decide +kernel
theorem dX8_init_10 : decode cX8_init 10 = .ok (.putfield 11, 3) := by decide +kernel
theorem dX8_init_13 : decode cX8_init 13 = .ok (.iconst 0, 1) := by decide +kernel
theorem dX8_init_14 : decode cX8_init 14 = .ok (.istore_n 1, 1) := by decide +kernel
theorem dX8_init_15 : decode cX8_init 15 = .ok (.iload_n 1, 1) := by decide +kernel
theorem dX8_init_16 : decode cX8_init 16 = .ok (.bipush 8, 2) := by decide +kernel
theorem dX8_init_18 : decode cX8_init 18 = .ok (.if_icmp .ge 22, 3) := by decide +kernel
theorem dX8_init_21 : decode cX8_init 21 = .ok (.aload_n 0, 1) := by decide +kernel
theorem dX8_init_22 : decode cX8_init 22 = .ok (.getfield 11, 3) := by decide +kernel
theorem dX8_init_25 : decode cX8_init 25 = .ok (.iload_n 1, 1) := by decide +kernel
theorem dX8_init_26 : decode cX8_init 26 = .ok (.new 9, 3) := by decide +kernel
theorem dX8_init_29 : decode cX8_init 29 = .ok (.dup, 1) := by decide +kernel
theorem dX8_init_30 : decode cX8_init 30 = .ok (.invokespecial 17, 3) := by decide +kernel
theorem dX8_init_33 : decode cX8_init 33 = .ok (.aastore, 1) := by decide +kernel
theorem dX8_init_34 : decode cX8_init 34 = .ok (.iinc 1 1, 3) := by decide +kernel
theorem dX8_init_37 : decode cX8_init 37 = .ok (.goto (-22), 3) := by decide +kernel
theorem dX8_init_40 : decode cX8_init 40 = .ok (.return_, 1) := by decide +kernel
theorem dX8_begin_0 : decode cX8_begin 0 = .ok (.aload_n 0, 1) := by decide +kernel
theorem dX8_begin_1 : decode cX8_begin 1 = .ok (.aload_n 1, 1) := by decide +kernel
theorem dX8_begin_2 : decode cX8_begin 2 = .ok (.getfield 18, 3) := by decide +kernel
theorem dX8_begin_5 : decode cX8_begin 5 = .ok (.putfield 23, 3) := by decide +kernel
theorem dX8_begin_8 : decode cX8_begin 8 = .ok (.aload_n 0, 1) := by decide +kernel
theorem dX8_begin_9 : decode cX8_begin 9 = .ok (.iconst 0, 1) := by decide +kernel
theorem dX8_begin_10 : decode cX8_begin 10 = .ok (.putfield 26, 3) := by decide +kernel
theorem dX8_begin_13 : decode cX8_begin 13 = .ok (.aload_n 0, 1) := by decide +kernel
theorem dX8_begin_14 : decode cX8_begin 14 = .ok (.iconst 0, 1) := by decide +kernel
theorem dX8_begin_15 : decode cX8_begin 15 = .ok (.putfield 29, 3) := by decide +kernel
theorem dX8_begin_18 : decode cX8_begin 18 = .ok (.aload_n 0, 1) := by decide +kernel
theorem dX8_begin_19 : decode cX8_begin 19 = .ok (.iconst 0, 1) := by decide +kernel
theorem dX8_begin_20 : decode cX8_begin 20 = .ok (.putfield 32, 3) := by decide +kernel
theorem dX8_begin_23 : decode cX8_begin 23 = .ok (.iconst 0, 1) := by decide +kernel
theorem dX8_begin_24 : decode cX8_begin 24 = .ok (.istore_n 2, 1) := by decide +kernel
theorem dX8_begin_25 : decode cX8_begin 25 = .ok (.iload_n 2, 1) := by decide +kernel
theorem dX8_begin_26 : decode cX8_begin 26 = .ok (.aload_n 0, 1) := by decide +kernel
theorem dX8_begin_27 : decode cX8_begin 27 = .ok (.getfield 23, 3) := by decide +kernel
theorem dX8_begin_30 : decode cX8_begin 30 = .ok (.if_icmp .ge 40, 3) := by decide +kernel
theorem dX8_begin_33 : decode cX8_begin 33 = .ok (.aload_n 0, 1) := by decide +kernel
theorem dX8_begin_34 : decode cX8_begin 34 = .ok (.getfield 11, 3) := by decide +kernel
theorem dX8_begin_37 : decode cX8_begin 37 = .ok (.iload_n 2, 1) := by decide +kernel
theorem dX8_begin_38 : decode cX8_begin 38 = .ok (.aaload, 1) := by decide +kernel
theorem dX8_begin_39 : decode cX8_begin 39 = .ok (.aload_n 1, 1) := by decide +kernel
theorem dX8_begin_40 : decode cX8_begin 40 = .ok (.getfield 35, 3) := by decide +kernel
theorem dX8_begin_43 : decode cX8_begin 43 = .ok (.iload_n 2, 1) := by decide +kernel
theorem dX8_begin_44 : decode cX8_begin 44 = .ok (.iaload, 1) := by decide +kernel
theorem dX8_begin_45 : decode cX8_begin 45 = .ok (.aload_n 1, 1) := by decide +kernel
theorem dX8_begin_46 : decode cX8_begin 46 = .ok (.getfield 39, 3) := by decide +kernel
theorem dX8_begin_49 : decode cX8_begin 49 = .ok (.iload_n 2, 1) := by decide +kernel
theorem dX8_begin_50 : decode cX8_begin 50 = .ok (.iaload, 1) := by decide +kernel
theorem dX8_begin_51 : decode cX8_begin 51 = .ok (.aload_n 1, 1) := by decide +kernel
theorem dX8_begin_52 : decode cX8_begin 52 = .ok (.getfield 42, 3) := by decide +kernel
theorem dX8_begin_55 : decode cX8_begin 55 = .ok (.iload_n 2, 1) := by decide +kernel
theorem dX8_begin_56 : decode cX8_begin 56 = .ok (.iaload, 1) := by decide +kernel
theorem dX8_begin_57 : decode cX8_begin 57 = .ok (.aload_n 1, 1) := by decide +kernel
theorem dX8_begin_58 : decode cX8_begin 58 = .ok (.getfield 45, 3) := by decide +kernel
theorem dX8_begin_61 : decode cX8_begin 61 = .ok (.invokevirtual 48, 3) := by decide +kernel
theorem dX8_begin_64 : decode cX8_begin 64 = .ok (.iinc 2 1, 3) := by decide +kernel
theorem dX8_begin_67 : decode cX8_begin 67 = .ok (.goto (-42), 3) := by decide +kernel
theorem dX8_begin_70 : decode cX8_begin 70 = .ok (.return_, 1) := by decide +kernel
theorem dX8_copyFrom_0 : decode cX8_copyFrom 0 = .ok (.aload_n 0, 1) := by decide +kernel
theorem dX8_copyFrom_1 : decode cX8_copyFrom 1 = .ok (.aload_n 1, 1) := by decide +kernel
theorem dX8_copyFrom_2 : decode cX8_copyFrom 2 = .ok (.getfield 23, 3) := by decide +kernel
theorem dX8_copyFrom_5 : decode cX8_copyFrom 5 = .ok (.putfield 23, 3) := by decide +kernel
theorem dX8_copyFrom_8 : decode cX8_copyFrom 8 = .ok (.aload_n 0, 1) := by decide +kernel
theorem dX8_copyFrom_9 : decode cX8_copyFrom 9 = .ok (.aload_n 1, 1) := by decide +kernel
theorem dX8_copyFrom_10 : decode cX8_copyFrom 10 = .ok (.getfield 26, 3) := by decide +kernel
theorem dX8_copyFrom_13 : decode cX8_copyFrom 13 = .ok (.putfield 26, 3) := by decide +kernel
theorem dX8_copyFrom_16 : decode cX8_copyFrom 16 = .ok (.aload_n 0, 1) := by decide +kernel
theorem dX8_copyFrom_17 : decode cX8_copyFrom 17 = .ok (.aload_n 1, 1) := by decide +kernel
theorem dX8_copyFrom_18 : decode cX8_copyFrom 18 = .ok (.getfield 29, 3) := by decide +kernel
theorem dX8_copyFrom_21 : decode cX8_copyFrom 21 = .ok (.putfield 29, 3) := by decide +kernel
theorem dX8_copyFrom_24 : decode cX8_copyFrom 24 = .ok (.aload_n 0, 1) := by decide +kernel
theorem dX8_copyFrom_25 : decode cX8_copyFrom 25 = .ok (.aload_n 1, 1) := by decide +kernel
theorem dX8_copyFrom_26 : decode cX8_copyFrom 26 = .ok (.getfield 32, 3) := by decide +kernel
theorem dX8_copyFrom_29 : decode cX8_copyFrom 29 = .ok (.putfield 32, 3) := by decide +kernel
theorem dX8_copyFrom_32 : decode cX8_copyFrom 32 = .ok (.iconst 0, 1) := by decide +kernel
theorem dX8_copyFrom_33 : decode cX8_copyFrom 33 = .ok (.istore_n 2, 1) := by decide +kernel
theorem dX8_copyFrom_34 : decode cX8_copyFrom 34 = .ok (.iload_n 2, 1) := by decide +kernel
theorem dX8_copyFrom_35 : decode cX8_copyFrom 35 = .ok (.aload_n 0, 1) := by decide +kernel
theorem dX8_copyFrom_36 : decode cX8_copyFrom 36 = .ok (.getfield 23, 3) := by decide +kernel
theorem dX8_copyFrom_39 : decode cX8_copyFrom 39 = .ok (.if_icmp .ge 24, 3) := by decide +kernel
theorem dX8_copyFrom_42 : decode cX8_copyFrom 42 = .ok (.aload_n 0, 1) := by decide +kernel
theorem dX8_copyFrom_43 : decode cX8_copyFrom 43 = .ok (.getfield 11, 3) := by decide +kernel
theorem dX8_copyFrom_46 : decode cX8_copyFrom 46 = .ok (.iload_n 2, 1) := by decide +kernel
theorem dX8_copyFrom_47 : decode cX8_copyFrom 47 = .ok (.aaload, 1) := by decide +kernel
theorem dX8_copyFrom_48 : decode cX8_copyFrom 48 = .ok (.aload_n 1, 1) := by decide +kernel
theorem dX8_copyFrom_49 : decode cX8_copyFrom 49 = .ok (.getfield 11, 3) := by decide +kernel
theorem dX8_copyFrom_52 : decode cX8_copyFrom 52 = .ok (.iload_n 2, 1) := by decide +kernel
theorem dX8_copyFrom_53 : decode cX8_copyFrom 53 = .ok (.aaload, 1) := by decide +kernel
theorem dX8_copyFrom_54 : decode cX8_copyFrom 54 = .ok (.invokevirtual 52, 3) := by decide +kernel
theorem dX8_copyFrom_57 : decode cX8_copyFrom 57 = .ok (.iinc 2 1, 3) := by decide +kernel
theorem dX8_copyFrom_60 : decode cX8_copyFrom 60 = .ok (.goto (-26), 3) := by decide +kernel
theorem dX8_copyFrom_63 : decode cX8_copyFrom 63 = .ok (.return_, 1) := by decide +kernel
theorem dX8_records_0 : decode cX8_records 0 = .ok (.iconst 0, 1) := by decide +kernel
theorem dX8_records_1 : decode cX8_records 1 = .ok (.istore_n 1, 1) := by decide +kernel
theorem dX8_records_2 : decode cX8_records 2 = .ok (.iconst 0, 1) := by decide +kernel
theorem dX8_records_3 : decode cX8_records 3 = .ok (.istore_n 2, 1) := by decide +kernel
theorem dX8_records_4 : decode cX8_records 4 = .ok (.iload_n 2, 1) := by decide +kernel
theorem dX8_records_5 : decode cX8_records 5 = .ok (.aload_n 0, 1) := by decide +kernel
theorem dX8_records_6 : decode cX8_records 6 = .ok (.getfield 23, 3) := by decide +kernel
theorem dX8_records_9 : decode cX8_records 9 = .ok (.if_icmp .ge 21, 3) := by decide +kernel
theorem dX8_records_12 : decode cX8_records 12 = .ok (.iload_n 1, 1) := by decide +kernel
theorem dX8_records_13 : decode cX8_records 13 = .ok (.aload_n 0, 1) := by decide +kernel
theorem dX8_records_14 : decode cX8_records 14 = .ok (.getfield 11, 3) := by decide +kernel
theorem dX8_records_17 : decode cX8_records 17 = .ok (.iload_n 2, 1) := by decide +kernel
theorem dX8_records_18 : decode cX8_records 18 = .ok (.aaload, 1) := by decide +kernel
theorem dX8_records_19 : decode cX8_records 19 = .ok (.getfield 56, 3) := by decide +kernel
theorem dX8_records_22 : decode cX8_records 22 = .ok (.iadd, 1) := by decide +kernel
theorem dX8_records_23 : decode cX8_records 23 = .ok (.istore_n 1, 1) := by decide +kernel
theorem dX8_records_24 : decode cX8_records 24 = .ok (.iinc 2 1, 3) := by decide +kernel
theorem dX8_records_27 : decode cX8_records 27 = .ok (.goto (-23), 3) := by decide +kernel
theorem dX8_records_30 : decode cX8_records 30 = .ok (.iload_n 1, 1) := by decide +kernel
theorem dX8_records_31 : decode cX8_records 31 = .ok (.ireturn, 1) := by decide +kernel
theorem dX8_write_0 : decode cX8_write 0 = .ok (.aload_n 0, 1) := by decide +kernel
theorem dX8_write_1 : decode cX8_write 1 = .ok (.getfield 11, 3) := by decide +kernel
theorem dX8_write_4 : decode cX8_write 4 = .ok (.iload_n 1, 1) := by decide +kernel
theorem dX8_write_5 : decode cX8_write 5 = .ok (.aaload, 1) := by decide +kernel
theorem dX8_write_6 : decode cX8_write 6 = .ok (.invokevirtual 59, 3) := by decide +kernel
theorem dX8_write_9 : decode cX8_write 9 = .ok (.ifCond .ne 5, 3) := by decide +kernel
theorem dX8_write_12 : decode cX8_write 12 = .ok (.iconst 0, 1) := by decide +kernel
theorem dX8_write_13 : decode cX8_write 13 = .ok (.ireturn, 1) := by decide +kernel
theorem dX8_write_14 : decode cX8_write 14 = .ok (.aload_n 3, 1) := by decide +kernel
theorem dX8_write_15 : decode cX8_write 15 = .ok (.aload_n 0, 1) := by decide +kernel
theorem dX8_write_16 : decode cX8_write 16 = .ok (.iload_n 1, 1) := by decide +kernel
theorem dX8_write_17 : decode cX8_write 17 = .ok (.iload_n 2, 1) := by decide +kernel
theorem dX8_write_18 : decode cX8_write 18 = .ok (.invokevirtual 63, 3) := by decide +kernel
theorem dX8_write_21 : decode cX8_write 21 = .ok (.bipush 50, 2) := by decide +kernel
theorem dX8_write_23 : decode cX8_write 23 = .ok (.if_icmp .lt 13, 3) := by decide +kernel
theorem dX8_write_26 : decode cX8_write 26 = .ok (.aload_n 0, 1) := by decide +kernel
theorem dX8_write_27 : decode cX8_write 27 = .ok (.dup, 1) := by decide +kernel
theorem dX8_write_28 : decode cX8_write 28 = .ok (.getfield 29, 3) := by decide +kernel
theorem dX8_write_31 : decode cX8_write 31 = .ok (.iconst 1, 1) := by decide +kernel
theorem dX8_write_32 : decode cX8_write 32 = .ok (.iadd, 1) := by decide +kernel
theorem dX8_write_33 : decode cX8_write 33 = .ok (.putfield 29, 3) := by decide +kernel
theorem dX8_write_36 : decode cX8_write 36 = .ok (.aload_n 0, 1) := by decide +kernel
theorem dX8_write_37 : decode cX8_write 37 = .ok (.getfield 11, 3) := by decide +kernel
theorem dX8_write_40 : decode cX8_write 40 = .ok (.iload_n 1, 1) := by decide +kernel
theorem dX8_write_41 : decode cX8_write 41 = .ok (.aaload, 1) := by decide +kernel
theorem dX8_write_42 : decode cX8_write 42 = .ok (.iload_n 2, 1) := by decide +kernel
theorem dX8_write_43 : decode cX8_write 43 = .ok (.invokevirtual 69, 3) := by decide +kernel
theorem dX8_write_46 : decode cX8_write 46 = .ok (.aload_n 0, 1) := by decide +kernel
theorem dX8_write_47 : decode cX8_write 47 = .ok (.dup, 1) := by decide +kernel
theorem dX8_write_48 : decode cX8_write 48 = .ok (.getfield 32, 3) := by decide +kernel
theorem dX8_write_51 : decode cX8_write 51 = .ok (.iconst 1, 1) := by decide +kernel
theorem dX8_write_52 : decode cX8_write 52 = .ok (.iadd, 1) := by decide +kernel
theorem dX8_write_53 : decode cX8_write 53 = .ok (.putfield 32, 3) := by decide +kernel
theorem dX8_write_56 : decode cX8_write 56 = .ok (.iconst 1, 1) := by decide +kernel
theorem dX8_write_57 : decode cX8_write 57 = .ok (.ireturn, 1) := by decide +kernel
theorem dX8_hear_0 : decode cX8_hear 0 = .ok (.aload_n 0, 1) := by decide +kernel
theorem dX8_hear_1 : decode cX8_hear 1 = .ok (.getfield 11, 3) := by decide +kernel
theorem dX8_hear_4 : decode cX8_hear 4 = .ok (.iload_n 1, 1) := by decide +kernel
theorem dX8_hear_5 : decode cX8_hear 5 = .ok (.aaload, 1) := by decide +kernel
theorem dX8_hear_6 : decode cX8_hear 6 = .ok (.astore 4, 2) := by decide +kernel
theorem dX8_hear_8 : decode cX8_hear 8 = .ok (.aload 4, 2) := by decide +kernel
theorem dX8_hear_10 : decode cX8_hear 10 = .ok (.getfield 56, 3) := by decide +kernel
theorem dX8_hear_13 : decode cX8_hear 13 = .ok (.ifCond .le 28, 3) := by decide +kernel
theorem dX8_hear_16 : decode cX8_hear 16 = .ok (.aload_n 0, 1) := by decide +kernel
theorem dX8_hear_17 : decode cX8_hear 17 = .ok (.iload_n 2, 1) := by decide +kernel
theorem dX8_hear_18 : decode cX8_hear 18 = .ok (.aload 4, 2) := by decide +kernel
theorem dX8_hear_20 : decode cX8_hear 20 = .ok (.aload 4, 2) := by decide +kernel
theorem dX8_hear_22 : decode cX8_hear 22 = .ok (.getfield 56, 3) := by decide +kernel
theorem dX8_hear_25 : decode cX8_hear 25 = .ok (.iconst 1, 1) := by decide +kernel
theorem dX8_hear_26 : decode cX8_hear 26 = .ok (.isub, 1) := by decide +kernel
theorem dX8_hear_27 : decode cX8_hear 27 = .ok (.invokevirtual 73, 3) := by decide +kernel
theorem dX8_hear_30 : decode cX8_hear 30 = .ok (.aload_n 3, 1) := by decide +kernel
theorem dX8_hear_31 : decode cX8_hear 31 = .ok (.invokevirtual 77, 3) := by decide +kernel
theorem dX8_hear_34 : decode cX8_hear 34 = .ok (.ifCond .eq 7, 3) := by decide +kernel
theorem dX8_hear_37 : decode cX8_hear 37 = .ok (.iconst 1, 1) := by decide +kernel
theorem dX8_hear_38 : decode cX8_hear 38 = .ok (.goto 4, 3) := by decide +kernel
theorem dX8_hear_41 : decode cX8_hear 41 = .ok (.iconst 0, 1) := by decide +kernel
theorem dX8_hear_42 : decode cX8_hear 42 = .ok (.ireturn, 1) := by decide +kernel
theorem dX8_endDay_0 : decode cX8_endDay 0 = .ok (.iconst 0, 1) := by decide +kernel
theorem dX8_endDay_1 : decode cX8_endDay 1 = .ok (.istore_n 1, 1) := by decide +kernel
theorem dX8_endDay_2 : decode cX8_endDay 2 = .ok (.iload_n 1, 1) := by decide +kernel
theorem dX8_endDay_3 : decode cX8_endDay 3 = .ok (.aload_n 0, 1) := by decide +kernel
theorem dX8_endDay_4 : decode cX8_endDay 4 = .ok (.getfield 23, 3) := by decide +kernel
theorem dX8_endDay_7 : decode cX8_endDay 7 = .ok (.if_icmp .ge 18, 3) := by decide +kernel
theorem dX8_endDay_10 : decode cX8_endDay 10 = .ok (.aload_n 0, 1) := by decide +kernel
theorem dX8_endDay_11 : decode cX8_endDay 11 = .ok (.getfield 11, 3) := by decide +kernel
theorem dX8_endDay_14 : decode cX8_endDay 14 = .ok (.iload_n 1, 1) := by decide +kernel
theorem dX8_endDay_15 : decode cX8_endDay 15 = .ok (.aaload, 1) := by decide +kernel
theorem dX8_endDay_16 : decode cX8_endDay 16 = .ok (.invokevirtual 80, 3) := by decide +kernel
theorem dX8_endDay_19 : decode cX8_endDay 19 = .ok (.iinc 1 1, 3) := by decide +kernel
theorem dX8_endDay_22 : decode cX8_endDay 22 = .ok (.goto (-20), 3) := by decide +kernel
theorem dX8_endDay_25 : decode cX8_endDay 25 = .ok (.aload_n 0, 1) := by decide +kernel
theorem dX8_endDay_26 : decode cX8_endDay 26 = .ok (.dup, 1) := by decide +kernel
theorem dX8_endDay_27 : decode cX8_endDay 27 = .ok (.getfield 26, 3) := by decide +kernel
theorem dX8_endDay_30 : decode cX8_endDay 30 = .ok (.iconst 1, 1) := by decide +kernel
theorem dX8_endDay_31 : decode cX8_endDay 31 = .ok (.iadd, 1) := by decide +kernel
theorem dX8_endDay_32 : decode cX8_endDay 32 = .ok (.putfield 26, 3) := by decide +kernel
theorem dX8_endDay_35 : decode cX8_endDay 35 = .ok (.return_, 1) := by decide +kernel
theorem dX9_init_0 : decode cX9_init 0 = .ok (.aload_n 0, 1) := by decide +kernel
theorem dX9_init_1 : decode cX9_init 1 = .ok (.invokespecial 3, 3) := by decide +kernel
theorem dX9_init_4 : decode cX9_init 4 = .ok (.aload_n 0, 1) := by decide +kernel
theorem dX9_init_5 : decode cX9_init 5 = .ok (.sipush 600, 3) := by decide +kernel
theorem dX9_init_8 : decode cX9_init 8 = .ok (.newarray .byte, 2) := by decide +kernel
theorem dX9_init_10 : decode cX9_init 10 = .ok (.putfield 9, 3) := by decide +kernel
theorem dX9_init_13 : decode cX9_init 13 = .ok (.aload_n 0, 1) := by decide +kernel
theorem dX9_init_14 : decode cX9_init 14 = .ok (.iconst (-1), 1) := by decide +kernel
theorem dX9_init_15 : decode cX9_init 15 = .ok (.putfield 15, 3) := by decide +kernel
theorem dX9_init_18 : decode cX9_init 18 = .ok (.return_, 1) := by decide +kernel
theorem dX9_put_0 : decode cX9_put 0 = .ok (.bipush 24, 2) := by decide +kernel
theorem dX9_put_2 : decode cX9_put 2 = .ok (.istore_n 2, 1) := by decide +kernel
theorem dX9_put_3 : decode cX9_put 3 = .ok (.iload_n 2, 1) := by decide +kernel
theorem dX9_put_4 : decode cX9_put 4 = .ok (.ifCond .lt 42, 3) := by decide +kernel
theorem dX9_put_7 : decode cX9_put 7 = .ok (.aload_n 0, 1) := by decide +kernel
theorem dX9_put_8 : decode cX9_put 8 = .ok (.getfield 19, 3) := by decide +kernel
theorem dX9_put_11 : decode cX9_put 11 = .ok (.sipush 600, 3) := by decide +kernel
theorem dX9_put_14 : decode cX9_put 14 = .ok (.if_icmp .ge 32, 3) := by decide +kernel
theorem dX9_put_17 : decode cX9_put 17 = .ok (.aload_n 0, 1) := by decide +kernel
theorem dX9_put_18 : decode cX9_put 18 = .ok (.getfield 9, 3) := by decide +kernel
theorem dX9_put_21 : decode cX9_put 21 = .ok (.aload_n 0, 1) := by decide +kernel
theorem dX9_put_22 : decode cX9_put 22 = .ok (.getfield 19, 3) := by decide +kernel
theorem dX9_put_25 : decode cX9_put 25 = .ok (.iload_n 1, 1) := by decide +kernel
theorem dX9_put_26 : decode cX9_put 26 = .ok (.iload_n 2, 1) := by decide +kernel
theorem dX9_put_27 : decode cX9_put 27 = .ok (.ishr, 1) := by decide +kernel
theorem dX9_put_28 : decode cX9_put 28 = .ok (.i2b, 1) := by decide +kernel
theorem dX9_put_29 : decode cX9_put 29 = .ok (.bastore, 1) := by decide +kernel
theorem dX9_put_30 : decode cX9_put 30 = .ok (.aload_n 0, 1) := by decide +kernel
theorem dX9_put_31 : decode cX9_put 31 = .ok (.dup, 1) := by decide +kernel
theorem dX9_put_32 : decode cX9_put 32 = .ok (.getfield 19, 3) := by decide +kernel
theorem dX9_put_35 : decode cX9_put 35 = .ok (.iconst 1, 1) := by decide +kernel
theorem dX9_put_36 : decode cX9_put 36 = .ok (.iadd, 1) := by decide +kernel
theorem dX9_put_37 : decode cX9_put 37 = .ok (.putfield 19, 3) := by decide +kernel
theorem dX9_put_40 : decode cX9_put 40 = .ok (.iinc 2 (-8), 3) := by decide +kernel
theorem dX9_put_43 : decode cX9_put 43 = .ok (.goto (-40), 3) := by decide +kernel
theorem dX9_put_46 : decode cX9_put 46 = .ok (.return_, 1) := by decide +kernel
theorem dX9_open_0 : decode cX9_open 0 = .ok (.aload_n 0, 1) := by decide +kernel
theorem dX9_open_1 : decode cX9_open 1 = .ok (.iload_n 1, 1) := by decide +kernel
theorem dX9_open_2 : decode cX9_open 2 = .ok (.putfield 22, 3) := by decide +kernel
theorem dX9_open_5 : decode cX9_open 5 = .ok (.aload_n 0, 1) := by decide +kernel
theorem dX9_open_6 : decode cX9_open 6 = .ok (.iconst 0, 1) := by decide +kernel
theorem dX9_open_7 : decode cX9_open 7 = .ok (.putfield 25, 3) := by decide +kernel
theorem dX9_open_10 : decode cX9_open 10 = .ok (.aload_n 0, 1) := by decide +kernel
theorem dX9_open_11 : decode cX9_open 11 = .ok (.iconst 0, 1) := by decide +kernel
theorem dX9_open_12 : decode cX9_open 12 = .ok (.putfield 28, 3) := by decide +kernel
theorem dX9_open_15 : decode cX9_open 15 = .ok (.aload_n 0, 1) := by decide +kernel
theorem dX9_open_16 : decode cX9_open 16 = .ok (.iconst 0, 1) := by decide +kernel
theorem dX9_open_17 : decode cX9_open 17 = .ok (.putfield 19, 3) := by decide +kernel
theorem dX9_open_20 : decode cX9_open 20 = .ok (.aload_n 0, 1) := by decide +kernel
theorem dX9_open_21 : decode cX9_open 21 = .ok (.iconst 0, 1) := by decide +kernel
theorem dX9_open_22 : decode cX9_open 22 = .ok (.putfield 31, 3) := by decide +kernel
theorem dX9_open_25 : decode cX9_open 25 = .ok (.aload_n 0, 1) := by decide +kernel
theorem dX9_open_26 : decode cX9_open 26 = .ok (.iconst (-1), 1) := by decide +kernel
theorem dX9_open_27 : decode cX9_open 27 = .ok (.putfield 15, 3) := by decide +kernel
theorem dX9_open_30 : decode cX9_open 30 = .ok (.return_, 1) := by decide +kernel
theorem dX9_failed_0 : decode cX9_failed 0 = .ok (.aload_n 0, 1) := by decide +kernel
theorem dX9_failed_1 : decode cX9_failed 1 = .ok (.getfield 31, 3) := by decide +kernel
theorem dX9_failed_4 : decode cX9_failed 4 = .ok (.ifCond .eq 7, 3) := by decide +kernel
theorem dX9_failed_7 : decode cX9_failed 7 = .ok (.iconst 1, 1) := by decide +kernel
theorem dX9_failed_8 : decode cX9_failed 8 = .ok (.goto 4, 3) := by decide +kernel
theorem dX9_failed_11 : decode cX9_failed 11 = .ok (.iconst 0, 1) := by decide +kernel
theorem dX9_failed_12 : decode cX9_failed 12 = .ok (.ireturn, 1) := by decide +kernel
theorem dX9_fail_0 : decode cX9_fail 0 = .ok (.aload_n 0, 1) := by decide +kernel
theorem dX9_fail_1 : decode cX9_fail 1 = .ok (.getfield 31, 3) := by decide +kernel
theorem dX9_fail_4 : decode cX9_fail 4 = .ok (.ifCond .ne 13, 3) := by decide +kernel
theorem dX9_fail_7 : decode cX9_fail 7 = .ok (.aload_n 0, 1) := by decide +kernel
theorem dX9_fail_8 : decode cX9_fail 8 = .ok (.iload_n 1, 1) := by decide +kernel
theorem dX9_fail_9 : decode cX9_fail 9 = .ok (.putfield 31, 3) := by decide +kernel
theorem dX9_fail_12 : decode cX9_fail 12 = .ok (.aload_n 0, 1) := by decide +kernel
theorem dX9_fail_13 : decode cX9_fail 13 = .ok (.iload_n 2, 1) := by decide +kernel
theorem dX9_fail_14 : decode cX9_fail 14 = .ok (.putfield 15, 3) := by decide +kernel
theorem dX9_fail_17 : decode cX9_fail 17 = .ok (.return_, 1) := by decide +kernel
theorem dX9_next_0 : decode cX9_next 0 = .ok (.aload_n 0, 1) := by decide +kernel
theorem dX9_next_1 : decode cX9_next 1 = .ok (.getfield 25, 3) := by decide +kernel
theorem dX9_next_4 : decode cX9_next 4 = .ok (.aload_n 0, 1) := by decide +kernel
theorem dX9_next_5 : decode cX9_next 5 = .ok (.getfield 22, 3) := by decide +kernel
theorem dX9_next_8 : decode cX9_next 8 = .ok (.if_icmp .ge 40, 3) := by decide +kernel
theorem dX9_next_11 : decode cX9_next 11 = .ok (.aload_n 0, 1) := by decide +kernel
theorem dX9_next_12 : decode cX9_next 12 = .ok (.getfield 25, 3) := by decide +kernel
theorem dX9_next_15 : decode cX9_next 15 = .ok (.sipush 600, 3) := by decide +kernel
theorem dX9_next_18 : decode cX9_next 18 = .ok (.if_icmp .ge 30, 3) := by decide +kernel
theorem dX9_next_21 : decode cX9_next 21 = .ok (.aload_n 0, 1) := by decide +kernel
theorem dX9_next_22 : decode cX9_next 22 = .ok (.getfield 9, 3) := by decide +kernel
theorem dX9_next_25 : decode cX9_next 25 = .ok (.aload_n 0, 1) := by decide +kernel
theorem dX9_next_26 : decode cX9_next 26 = .ok (.getfield 25, 3) := by decide +kernel
theorem dX9_next_29 : decode cX9_next 29 = .ok (.baload, 1) := by decide +kernel
theorem dX9_next_30 : decode cX9_next 30 = .ok (.bipush 32, 2) := by decide +kernel
theorem dX9_next_32 : decode cX9_next 32 = .ok (.if_icmp .ne 16, 3) := by decide +kernel
theorem dX9_next_35 : decode cX9_next 35 = .ok (.aload_n 0, 1) := by decide +kernel
theorem dX9_next_36 : decode cX9_next 36 = .ok (.dup, 1) := by decide +kernel
theorem dX9_next_37 : decode cX9_next 37 = .ok (.getfield 25, 3) := by decide +kernel
theorem dX9_next_40 : decode cX9_next 40 = .ok (.iconst 1, 1) := by decide +kernel
theorem dX9_next_41 : decode cX9_next 41 = .ok (.iadd, 1) := by decide +kernel
theorem dX9_next_42 : decode cX9_next 42 = .ok (.putfield 25, 3) := by decide +kernel
theorem dX9_next_45 : decode cX9_next 45 = .ok (.goto (-45), 3) := by decide +kernel
theorem dX9_next_48 : decode cX9_next 48 = .ok (.aload_n 0, 1) := by decide +kernel
theorem dX9_next_49 : decode cX9_next 49 = .ok (.aload_n 0, 1) := by decide +kernel
theorem dX9_next_50 : decode cX9_next 50 = .ok (.getfield 25, 3) := by decide +kernel
theorem dX9_next_53 : decode cX9_next 53 = .ok (.putfield 28, 3) := by decide +kernel
theorem dX9_next_56 : decode cX9_next 56 = .ok (.aload_n 0, 1) := by decide +kernel
theorem dX9_next_57 : decode cX9_next 57 = .ok (.getfield 25, 3) := by decide +kernel
theorem dX9_next_60 : decode cX9_next 60 = .ok (.aload_n 0, 1) := by decide +kernel
theorem dX9_next_61 : decode cX9_next 61 = .ok (.getfield 22, 3) := by decide +kernel
theorem dX9_next_64 : decode cX9_next 64 = .ok (.if_icmp .ge 29, 3) := by decide +kernel
theorem dX9_next_67 : decode cX9_next 67 = .ok (.aload_n 0, 1) := by decide +kernel
theorem dX9_next_68 : decode cX9_next 68 = .ok (.getfield 25, 3) := by decide +kernel
theorem dX9_next_71 : decode cX9_next 71 = .ok (.sipush 600, 3) := by decide +kernel
theorem dX9_next_74 : decode cX9_next 74 = .ok (.if_icmp .ge 19, 3) := by decide +kernel
theorem dX9_next_77 : decode cX9_next 77 = .ok (.aload_n 0, 1) := by decide +kernel
theorem dX9_next_78 : decode cX9_next 78 = .ok (.getfield 9, 3) := by decide +kernel
theorem dX9_next_81 : decode cX9_next 81 = .ok (.aload_n 0, 1) := by decide +kernel
theorem dX9_next_82 : decode cX9_next 82 = .ok (.getfield 25, 3) := by decide +kernel
theorem dX9_next_85 : decode cX9_next 85 = .ok (.baload, 1) := by decide +kernel
theorem dX9_next_86 : decode cX9_next 86 = .ok (.sipush 255, 3) := by decide +kernel
theorem dX9_next_89 : decode cX9_next 89 = .ok (.iand, 1) := by decide +kernel
theorem dX9_next_90 : decode cX9_next 90 = .ok (.goto 4, 3) := by decide +kernel
theorem dX9_next_93 : decode cX9_next 93 = .ok (.iconst (-1), 1) := by decide +kernel
theorem dX9_next_94 : decode cX9_next 94 = .ok (.ireturn, 1) := by decide +kernel
theorem dX9_byteHere_0 : decode cX9_byteHere 0 = .ok (.aload_n 0, 1) := by decide +kernel
theorem dX9_byteHere_1 : decode cX9_byteHere 1 = .ok (.getfield 25, 3) := by decide +kernel
theorem dX9_byteHere_4 : decode cX9_byteHere 4 = .ok (.aload_n 0, 1) := by decide +kernel
theorem dX9_byteHere_5 : decode cX9_byteHere 5 = .ok (.getfield 22, 3) := by decide +kernel
theorem dX9_byteHere_8 : decode cX9_byteHere 8 = .ok (.if_icmp .ge 29, 3) := by decide +kernel
theorem dX9_byteHere_11 : decode cX9_byteHere 11 = .ok (.aload_n 0, 1) := by decide +kernel
theorem dX9_byteHere_12 : decode cX9_byteHere 12 = .ok (.getfield 25, 3) := by decide +kernel
theorem dX9_byteHere_15 : decode cX9_byteHere 15 = .ok (.sipush 600, 3) := by decide +kernel
theorem dX9_byteHere_18 : decode cX9_byteHere 18 = .ok (.if_icmp .ge 19, 3) := by decide +kernel
theorem dX9_byteHere_21 : decode cX9_byteHere 21 = .ok (.aload_n 0, 1) := by decide +kernel
theorem dX9_byteHere_22 : decode cX9_byteHere 22 = .ok (.getfield 9, 3) := by decide +kernel
theorem dX9_byteHere_25 : decode cX9_byteHere 25 = .ok (.aload_n 0, 1) := by decide +kernel
theorem dX9_byteHere_26 : decode cX9_byteHere 26 = .ok (.getfield 25, 3) := by decide +kernel
theorem dX9_byteHere_29 : decode cX9_byteHere 29 = .ok (.baload, 1) := by decide +kernel
theorem dX9_byteHere_30 : decode cX9_byteHere 30 = .ok (.sipush 255, 3) := by decide +kernel
theorem dX9_byteHere_33 : decode cX9_byteHere 33 = .ok (.iand, 1) := by decide +kernel
theorem dX9_byteHere_34 : decode cX9_byteHere 34 = .ok (.goto 4, 3) := by decide +kernel
theorem dX9_byteHere_37 : decode cX9_byteHere 37 = .ok (.iconst (-1), 1) := by decide +kernel
theorem dX9_byteHere_38 : decode cX9_byteHere 38 = .ok (.ireturn, 1) := by decide +kernel
theorem dX9_more_0 : decode cX9_more 0 = .ok (.aload_n 0, 1) := by decide +kernel
theorem dX9_more_1 : decode cX9_more 1 = .ok (.getfield 31, 3) := by decide +kernel
theorem dX9_more_4 : decode cX9_more 4 = .ok (.ifCond .ne 15, 3) := by decide +kernel
theorem dX9_more_7 : decode cX9_more 7 = .ok (.aload_n 0, 1) := by decide +kernel
theorem dX9_more_8 : decode cX9_more 8 = .ok (.invokevirtual 34, 3) := by decide +kernel
theorem dX9_more_11 : decode cX9_more 11 = .ok (.iconst (-1), 1) := by decide +kernel
theorem dX9_more_12 : decode cX9_more 12 = .ok (.if_icmp .eq 7, 3) := by decide +kernel
theorem dX9_more_15 : decode cX9_more 15 = .ok (.iconst 1, 1) := by decide +kernel
theorem dX9_more_16 : decode cX9_more 16 = .ok (.goto 4, 3) := by decide +kernel
theorem dX9_more_19 : decode cX9_more 19 = .ok (.iconst 0, 1) := by decide +kernel
theorem dX9_more_20 : decode cX9_more 20 = .ok (.ireturn, 1) := by decide +kernel
theorem dX9_comes_0 : decode cX9_comes 0 = .ok (.aload_n 0, 1) := by decide +kernel
theorem dX9_comes_1 : decode cX9_comes 1 = .ok (.getfield 31, 3) := by decide +kernel
theorem dX9_comes_4 : decode cX9_comes 4 = .ok (.ifCond .ne 15, 3) := by decide +kernel
theorem dX9_comes_7 : decode cX9_comes 7 = .ok (.aload_n 0, 1) := by decide +kernel
theorem dX9_comes_8 : decode cX9_comes 8 = .ok (.invokevirtual 34, 3) := by decide +kernel
theorem dX9_comes_11 : decode cX9_comes 11 = .ok (.iload_n 1, 1) := by decide +kernel
theorem dX9_comes_12 : decode cX9_comes 12 = .ok (.if_icmp .ne 7, 3) := by decide +kernel
theorem dX9_comes_15 : decode cX9_comes 15 = .ok (.iconst 1, 1) := by decide +kernel
theorem dX9_comes_16 : decode cX9_comes 16 = .ok (.goto 4, 3) := by decide +kernel
theorem dX9_comes_19 : decode cX9_comes 19 = .ok (.iconst 0, 1) := by decide +kernel
theorem dX9_comes_20 : decode cX9_comes 20 = .ok (.ireturn, 1) := by decide +kernel
theorem dX9_digitComes_0 : decode cX9_digitComes 0 = .ok (.aload_n 0, 1) := by decide +kernel
theorem dX9_digitComes_1 : decode cX9_digitComes 1 = .ok (.getfield 31, 3) := by decide +kernel
theorem dX9_digitComes_4 : decode cX9_digitComes 4 = .ok (.ifCond .ne 17, 3) := by decide +kernel
theorem dX9_digitComes_7 : decode cX9_digitComes 7 = .ok (.aload_n 0, 1) := by decide +kernel
theorem dX9_digitComes_8 : decode cX9_digitComes 8 = .ok (.invokevirtual 34, 3) := by decide +kernel
theorem dX9_digitComes_11 : decode cX9_digitComes 11 = .ok (.invokestatic 38, 3) := by decide +kernel
theorem dX9_digitComes_14 : decode cX9_digitComes 14 = .ok (.ifCond .eq 7, 3) := by decide +kernel
theorem dX9_digitComes_17 : decode cX9_digitComes 17 = .ok (.iconst 1, 1) := by decide +kernel
theorem dX9_digitComes_18 : decode cX9_digitComes 18 = .ok (.goto 4, 3) := by decide +kernel
theorem dX9_digitComes_21 : decode cX9_digitComes 21 = .ok (.iconst 0, 1) := by decide +kernel
theorem dX9_digitComes_22 : decode cX9_digitComes 22 = .ok (.ireturn, 1) := by decide +kernel
theorem dX9_need_0 : decode cX9_need 0 = .ok (.aload_n 0, 1) := by decide +kernel
theorem dX9_need_1 : decode cX9_need 1 = .ok (.getfield 31, 3) := by decide +kernel
theorem dX9_need_4 : decode cX9_need 4 = .ok (.ifCond .ne 24, 3) := by decide +kernel
theorem dX9_need_7 : decode cX9_need 7 = .ok (.aload_n 0, 1) := by decide +kernel
theorem dX9_need_8 : decode cX9_need 8 = .ok (.invokevirtual 34, 3) := by decide +kernel
theorem dX9_need_11 : decode cX9_need 11 = .ok (.iload_n 1, 1) := by decide +kernel
theorem dX9_need_12 : decode cX9_need 12 = .ok (.if_icmp .ne 16, 3) := by decide +kernel
theorem dX9_need_15 : decode cX9_need 15 = .ok (.aload_n 0, 1) := by decide +kernel
theorem dX9_need_16 : decode cX9_need 16 = .ok (.dup, 1) := by decide +kernel
theorem dX9_need_17 : decode cX9_need 17 = .ok (.getfield 25, 3) := by decide +kernel
theorem dX9_need_20 : decode cX9_need 20 = .ok (.iconst 1, 1) := by decide +kernel
theorem dX9_need_21 : decode cX9_need 21 = .ok (.iadd, 1) := by decide +kernel
theorem dX9_need_22 : decode cX9_need 22 = .ok (.putfield 25, 3) := by decide +kernel
theorem dX9_need_25 : decode cX9_need 25 = .ok (.goto 12, 3) := by decide +kernel
theorem dX9_need_28 : decode cX9_need 28 = .ok (.aload_n 0, 1) := by decide +kernel
theorem dX9_need_29 : decode cX9_need 29 = .ok (.iconst 1, 1) := by decide +kernel
theorem dX9_need_30 : decode cX9_need 30 = .ok (.aload_n 0, 1) := by decide +kernel
theorem dX9_need_31 : decode cX9_need 31 = .ok (.getfield 28, 3) := by decide +kernel
theorem dX9_need_34 : decode cX9_need 34 = .ok (.invokevirtual 42, 3) := by decide +kernel
theorem dX9_need_37 : decode cX9_need 37 = .ok (.return_, 1) := by decide +kernel
theorem dX9_oneOf_0 : decode cX9_oneOf 0 = .ok (.iconst 0, 1) := by decide +kernel
theorem dX9_oneOf_1 : decode cX9_oneOf 1 = .ok (.istore_n 2, 1) := by decide +kernel
theorem dX9_oneOf_2 : decode cX9_oneOf 2 = .ok (.iload_n 2, 1) := by decide +kernel
theorem dX9_oneOf_3 : decode cX9_oneOf 3 = .ok (.aload_n 1, 1) := by decide +kernel
theorem dX9_oneOf_4 : decode cX9_oneOf 4 = .ok (.invokevirtual 46, 3) := by decide +kernel
theorem dX9_oneOf_7 : decode cX9_oneOf 7 = .ok (.if_icmp .ge 33, 3) := by decide +kernel
theorem dX9_oneOf_10 : decode cX9_oneOf 10 = .ok (.aload_n 0, 1) := by decide +kernel
theorem dX9_oneOf_11 : decode cX9_oneOf 11 = .ok (.aload_n 1, 1) := by decide +kernel
theorem dX9_oneOf_12 : decode cX9_oneOf 12 = .ok (.iload_n 2, 1) := by decide +kernel
theorem dX9_oneOf_13 : decode cX9_oneOf 13 = .ok (.invokevirtual 51, 3) := by decide +kernel
theorem dX9_oneOf_16 : decode cX9_oneOf 16 = .ok (.invokevirtual 55, 3) := by decide +kernel
theorem dX9_oneOf_19 : decode cX9_oneOf 19 = .ok (.ifCond .eq 15, 3) := by decide +kernel
theorem dX9_oneOf_22 : decode cX9_oneOf 22 = .ok (.aload_n 0, 1) := by decide +kernel
theorem dX9_oneOf_23 : decode cX9_oneOf 23 = .ok (.dup, 1) := by decide +kernel
theorem dX9_oneOf_24 : decode cX9_oneOf 24 = .ok (.getfield 25, 3) := by decide +kernel
theorem dX9_oneOf_27 : decode cX9_oneOf 27 = .ok (.iconst 1, 1) := by decide +kernel
theorem dX9_oneOf_28 : decode cX9_oneOf 28 = .ok (.iadd, 1) := by decide +kernel
theorem dX9_oneOf_29 : decode cX9_oneOf 29 = .ok (.putfield 25, 3) := by decide +kernel
theorem dX9_oneOf_32 : decode cX9_oneOf 32 = .ok (.iload_n 2, 1) := by decide +kernel
theorem dX9_oneOf_33 : decode cX9_oneOf 33 = .ok (.ireturn, 1) := by decide +kernel
theorem dX9_oneOf_34 : decode cX9_oneOf 34 = .ok (.iinc 2 1, 3) := by decide +kernel
theorem dX9_oneOf_37 : decode cX9_oneOf 37 = .ok (.goto (-35), 3) := by decide +kernel
theorem dX9_oneOf_40 : decode cX9_oneOf 40 = .ok (.iconst (-1), 1) := by decide +kernel
theorem dX9_oneOf_41 : decode cX9_oneOf 41 = .ok (.ireturn, 1) := by decide +kernel
theorem dX9_needEnd_0 : decode cX9_needEnd 0 = .ok (.aload_n 0, 1) := by decide +kernel
theorem dX9_needEnd_1 : decode cX9_needEnd 1 = .ok (.invokevirtual 59, 3) := by decide +kernel
theorem dX9_needEnd_4 : decode cX9_needEnd 4 = .ok (.ifCond .eq 12, 3) := by decide +kernel
theorem dX9_needEnd_7 : decode cX9_needEnd 7 = .ok (.aload_n 0, 1) := by decide +kernel
theorem dX9_needEnd_8 : decode cX9_needEnd 8 = .ok (.iconst 1, 1) := by decide +kernel
theorem dX9_needEnd_9 : decode cX9_needEnd 9 = .ok (.aload_n 0, 1) := by decide +kernel
theorem dX9_needEnd_10 : decode cX9_needEnd 10 = .ok (.getfield 28, 3) := by decide +kernel
theorem dX9_needEnd_13 : decode cX9_needEnd 13 = .ok (.invokevirtual 42, 3) := by decide +kernel
theorem dX9_needEnd_16 : decode cX9_needEnd 16 = .ok (.return_, 1) := by decide +kernel
theorem dX9_number_0 : decode cX9_number 0 = .ok (.aload_n 0, 1) := by decide +kernel
theorem dX9_number_1 : decode cX9_number 1 = .ok (.invokevirtual 63, 3) := by decide +kernel
theorem dX9_number_4 : decode cX9_number 4 = .ok (.ifCond .ne 14, 3) := by decide +kernel
theorem dX9_number_7 : decode cX9_number 7 = .ok (.aload_n 0, 1) := by decide +kernel
theorem dX9_number_8 : decode cX9_number 8 = .ok (.iconst 1, 1) := by decide +kernel
theorem dX9_number_9 : decode cX9_number 9 = .ok (.aload_n 0, 1) := by decide +kernel
theorem dX9_number_10 : decode cX9_number 10 = .ok (.getfield 28, 3) := by decide +kernel
theorem dX9_number_13 : decode cX9_number 13 = .ok (.invokevirtual 42, 3) := by decide +kernel
theorem dX9_number_16 : decode cX9_number 16 = .ok (.iconst (-1), 1) := by decide +kernel
theorem dX9_number_17 : decode cX9_number 17 = .ok (.ireturn, 1) := by decide +kernel
theorem dX9_number_18 : decode cX9_number 18 = .ok (.iconst 0, 1) := by decide +kernel
theorem dX9_number_19 : decode cX9_number 19 = .ok (.istore_n 2, 1) := by decide +kernel
theorem dX9_number_20 : decode cX9_number 20 = .ok (.aload_n 0, 1) := by decide +kernel
theorem dX9_number_21 : decode cX9_number 21 = .ok (.getfield 25, 3) := by decide +kernel
theorem dX9_number_24 : decode cX9_number 24 = .ok (.aload_n 0, 1) := by decide +kernel
theorem dX9_number_25 : decode cX9_number 25 = .ok (.getfield 22, 3) := by decide +kernel
theorem dX9_number_28 : decode cX9_number 28 = .ok (.if_icmp .ge 44, 3) := by decide +kernel
theorem dX9_number_31 : decode cX9_number 31 = .ok (.aload_n 0, 1) := by decide +kernel
theorem dX9_number_32 : decode cX9_number 32 = .ok (.invokevirtual 66, 3) := by decide +kernel
theorem dX9_number_35 : decode cX9_number 35 = .ok (.invokestatic 38, 3) := by decide +kernel
theorem dX9_number_38 : decode cX9_number 38 = .ok (.ifCond .eq 34, 3) := by decide +kernel
theorem dX9_number_41 : decode cX9_number 41 = .ok (.ldc 69, 2) := by decide +kernel
theorem dX9_number_43 : decode cX9_number 43 = .ok (.iload_n 2, 1) := by decide +kernel
theorem dX9_number_44 : decode cX9_number 44 = .ok (.bipush 10, 2) := by decide +kernel
theorem dX9_number_46 : decode cX9_number 46 = .ok (.imul, 1) := by decide +kernel
theorem dX9_number_47 : decode cX9_number 47 = .ok (.aload_n 0, 1) := by decide +kernel
theorem dX9_number_48 : decode cX9_number 48 = .ok (.invokevirtual 66, 3) := by decide +kernel
theorem dX9_number_51 : decode cX9_number 51 = .ok (.iadd, 1) := by decide +kernel
theorem dX9_number_52 : decode cX9_number 52 = .ok (.bipush 48, 2) := by decide +kernel
theorem dX9_number_54 : decode cX9_number 54 = .ok (.isub, 1) := by decide +kernel
theorem dX9_number_55 : decode cX9_number 55 = .ok (.invokestatic 70, 3) := by decide +kernel
theorem dX9_number_58 : decode cX9_number 58 = .ok (.istore_n 2, 1) := by decide +kernel
theorem dX9_number_59 : decode cX9_number 59 = .ok (.aload_n 0, 1) := by decide +kernel
theorem dX9_number_60 : decode cX9_number 60 = .ok (.dup, 1) := by decide +kernel
theorem dX9_number_61 : decode cX9_number 61 = .ok (.getfield 25, 3) := by decide +kernel
theorem dX9_number_64 : decode cX9_number 64 = .ok (.iconst 1, 1) := by decide +kernel
theorem dX9_number_65 : decode cX9_number 65 = .ok (.iadd, 1) := by decide +kernel
theorem dX9_number_66 : decode cX9_number 66 = .ok (.putfield 25, 3) := by decide +kernel
theorem dX9_number_69 : decode cX9_number 69 = .ok (.goto (-49), 3) := by decide +kernel
theorem dX9_number_72 : decode cX9_number 72 = .ok (.iload_n 2, 1) := by decide +kernel
theorem dX9_number_73 : decode cX9_number 73 = .ok (.iload_n 1, 1) := by decide +kernel
theorem dX9_number_74 : decode cX9_number 74 = .ok (.if_icmp .le 14, 3) := by decide +kernel
theorem dX9_number_77 : decode cX9_number 77 = .ok (.aload_n 0, 1) := by decide +kernel
theorem dX9_number_78 : decode cX9_number 78 = .ok (.iconst 2, 1) := by decide +kernel
theorem dX9_number_79 : decode cX9_number 79 = .ok (.aload_n 0, 1) := by decide +kernel
theorem dX9_number_80 : decode cX9_number 80 = .ok (.getfield 28, 3) := by decide +kernel
theorem dX9_number_83 : decode cX9_number 83 = .ok (.invokevirtual 42, 3) := by decide +kernel
theorem dX9_number_86 : decode cX9_number 86 = .ok (.iconst (-1), 1) := by decide +kernel
theorem dX9_number_87 : decode cX9_number 87 = .ok (.ireturn, 1) := by decide +kernel
theorem dX9_number_88 : decode cX9_number 88 = .ok (.iload_n 2, 1) := by decide +kernel
theorem dX9_number_89 : decode cX9_number 89 = .ok (.ireturn, 1) := by decide +kernel
theorem dX9_word_0 : decode cX9_word 0 = .ok (.aload_n 0, 1) := by decide +kernel
theorem dX9_word_1 : decode cX9_word 1 = .ok (.invokevirtual 59, 3) := by decide +kernel
theorem dX9_word_4 : decode cX9_word 4 = .ok (.ifCond .ne 14, 3) := by decide +kernel
theorem dX9_word_7 : decode cX9_word 7 = .ok (.aload_n 0, 1) := by decide +kernel
theorem dX9_word_8 : decode cX9_word 8 = .ok (.iconst 1, 1) := by decide +kernel
theorem dX9_word_9 : decode cX9_word 9 = .ok (.aload_n 0, 1) := by decide +kernel
theorem dX9_word_10 : decode cX9_word 10 = .ok (.getfield 28, 3) := by decide +kernel
theorem dX9_word_13 : decode cX9_word 13 = .ok (.invokevirtual 42, 3) := by decide +kernel
theorem dX9_word_16 : decode cX9_word 16 = .ok (.iconst (-1), 1) := by decide +kernel
theorem dX9_word_17 : decode cX9_word 17 = .ok (.ireturn, 1) := by decide +kernel
theorem dX9_word_18 : decode cX9_word 18 = .ok (.aload_n 0, 1) := by decide +kernel
theorem dX9_word_19 : decode cX9_word 19 = .ok (.getfield 25, 3) := by decide +kernel
theorem dX9_word_22 : decode cX9_word 22 = .ok (.aload_n 0, 1) := by decide +kernel
theorem dX9_word_23 : decode cX9_word 23 = .ok (.getfield 22, 3) := by decide +kernel
theorem dX9_word_26 : decode cX9_word 26 = .ok (.if_icmp .ge 26, 3) := by decide +kernel
theorem dX9_word_29 : decode cX9_word 29 = .ok (.aload_n 0, 1) := by decide +kernel
theorem dX9_word_30 : decode cX9_word 30 = .ok (.invokevirtual 66, 3) := by decide +kernel
theorem dX9_word_33 : decode cX9_word 33 = .ok (.invokestatic 76, 3) := by decide +kernel
theorem dX9_word_36 : decode cX9_word 36 = .ok (.ifCond .eq 16, 3) := by decide +kernel
theorem dX9_word_39 : decode cX9_word 39 = .ok (.aload_n 0, 1) := by decide +kernel
theorem dX9_word_40 : decode cX9_word 40 = .ok (.dup, 1) := by decide +kernel
theorem dX9_word_41 : decode cX9_word 41 = .ok (.getfield 25, 3) := by decide +kernel
theorem dX9_word_44 : decode cX9_word 44 = .ok (.iconst 1, 1) := by decide +kernel
theorem dX9_word_45 : decode cX9_word 45 = .ok (.iadd, 1) := by decide +kernel
theorem dX9_word_46 : decode cX9_word 46 = .ok (.putfield 25, 3) := by decide +kernel
theorem dX9_word_49 : decode cX9_word 49 = .ok (.goto (-31), 3) := by decide +kernel
theorem dX9_word_52 : decode cX9_word 52 = .ok (.iconst 0, 1) := by decide +kernel
theorem dX9_word_53 : decode cX9_word 53 = .ok (.istore_n 2, 1) := by decide +kernel
theorem dX9_word_54 : decode cX9_word 54 = .ok (.iconst 0, 1) := by decide +kernel
theorem dX9_word_55 : decode cX9_word 55 = .ok (.istore_n 3, 1) := by decide +kernel
theorem dX9_word_56 : decode cX9_word 56 = .ok (.iconst 0, 1) := by decide +kernel
theorem dX9_word_57 : decode cX9_word 57 = .ok (.istore 4, 2) := by decide +kernel
theorem dX9_word_59 : decode cX9_word 59 = .ok (.iload 4, 2) := by decide +kernel
theorem dX9_word_61 : decode cX9_word 61 = .ok (.aload_n 1, 1) := by decide +kernel
theorem dX9_word_62 : decode cX9_word 62 = .ok (.invokevirtual 46, 3) := by decide +kernel
theorem dX9_word_65 : decode cX9_word 65 = .ok (.if_icmp .ge 43, 3) := by decide +kernel
theorem dX9_word_68 : decode cX9_word 68 = .ok (.aload_n 1, 1) := by decide +kernel
theorem dX9_word_69 : decode cX9_word 69 = .ok (.iload 4, 2) := by decide +kernel
theorem dX9_word_71 : decode cX9_word 71 = .ok (.invokevirtual 51, 3) := by decide +kernel
theorem dX9_word_74 : decode cX9_word 74 = .ok (.bipush 32, 2) := by decide +kernel
theorem dX9_word_76 : decode cX9_word 76 = .ok (.if_icmp .ne 26, 3) := by decide +kernel
theorem dX9_word_79 : decode cX9_word 79 = .ok (.aload_n 0, 1) := by decide +kernel
theorem dX9_word_80 : decode cX9_word 80 = .ok (.aload_n 1, 1) := by decide +kernel
theorem dX9_word_81 : decode cX9_word 81 = .ok (.iload_n 3, 1) := by decide +kernel
theorem dX9_word_82 : decode cX9_word 82 = .ok (.iload 4, 2) := by decide +kernel
theorem dX9_word_84 : decode cX9_word 84 = .ok (.iload_n 3, 1) := by decide +kernel
theorem dX9_word_85 : decode cX9_word 85 = .ok (.isub, 1) := by decide +kernel
theorem dX9_word_86 : decode cX9_word 86 = .ok (.invokevirtual 79, 3) := by decide +kernel
theorem dX9_word_89 : decode cX9_word 89 = .ok (.ifCond .eq 5, 3) := by decide +kernel
theorem dX9_word_92 : decode cX9_word 92 = .ok (.iload_n 2, 1) := by decide +kernel
theorem dX9_word_93 : decode cX9_word 93 = .ok (.ireturn, 1) := by decide +kernel
theorem dX9_word_94 : decode cX9_word 94 = .ok (.iinc 2 1, 3) := by decide +kernel
theorem dX9_word_97 : decode cX9_word 97 = .ok (.iload 4, 2) := by decide +kernel
theorem dX9_word_99 : decode cX9_word 99 = .ok (.iconst 1, 1) := by decide +kernel
theorem dX9_word_100 : decode cX9_word 100 = .ok (.iadd, 1) := by decide +kernel
theorem dX9_word_101 : decode cX9_word 101 = .ok (.istore_n 3, 1) := by decide +kernel
theorem dX9_word_102 : decode cX9_word 102 = .ok (.iinc 4 1, 3) := by decide +kernel
theorem dX9_word_105 : decode cX9_word 105 = .ok (.goto (-46), 3) := by decide +kernel
theorem dX9_word_108 : decode cX9_word 108 = .ok (.aload_n 0, 1) := by decide +kernel
theorem dX9_word_109 : decode cX9_word 109 = .ok (.iconst 1, 1) := by decide +kernel
theorem dX9_word_110 : decode cX9_word 110 = .ok (.aload_n 0, 1) := by decide +kernel
theorem dX9_word_111 : decode cX9_word 111 = .ok (.getfield 28, 3) := by decide +kernel
theorem dX9_word_114 : decode cX9_word 114 = .ok (.invokevirtual 42, 3) := by decide +kernel
theorem dX9_word_117 : decode cX9_word 117 = .ok (.iconst (-1), 1) := by decide +kernel
theorem dX9_word_118 : decode cX9_word 118 = .ok (.ireturn, 1) := by decide +kernel
theorem dX9_isRead_0 : decode cX9_isRead 0 = .ok (.iload_n 3, 1) := by decide +kernel
theorem dX9_isRead_1 : decode cX9_isRead 1 = .ok (.aload_n 0, 1) := by decide +kernel
theorem dX9_isRead_2 : decode cX9_isRead 2 = .ok (.getfield 25, 3) := by decide +kernel
theorem dX9_isRead_5 : decode cX9_isRead 5 = .ok (.aload_n 0, 1) := by decide +kernel
theorem dX9_isRead_6 : decode cX9_isRead 6 = .ok (.getfield 28, 3) := by decide +kernel
theorem dX9_isRead_9 : decode cX9_isRead 9 = .ok (.isub, 1) := by decide +kernel
theorem dX9_isRead_10 : decode cX9_isRead 10 = .ok (.if_icmp .ne 25, 3) := by decide +kernel
theorem dX9_isRead_13 : decode cX9_isRead 13 = .ok (.iload_n 2, 1) := by decide +kernel
theorem dX9_isRead_14 : decode cX9_isRead 14 = .ok (.iload_n 3, 1) := by decide +kernel
theorem dX9_isRead_15 : decode cX9_isRead 15 = .ok (.iadd, 1) := by decide +kernel
theorem dX9_isRead_16 : decode cX9_isRead 16 = .ok (.aload_n 1, 1) := by decide +kernel
theorem dX9_isRead_17 : decode cX9_isRead 17 = .ok (.invokevirtual 46, 3) := by decide +kernel
theorem dX9_isRead_20 : decode cX9_isRead 20 = .ok (.if_icmp .gt 15, 3) := by decide +kernel
theorem dX9_isRead_23 : decode cX9_isRead 23 = .ok (.aload_n 0, 1) := by decide +kernel
theorem dX9_isRead_24 : decode cX9_isRead 24 = .ok (.getfield 28, 3) := by decide +kernel
theorem dX9_isRead_27 : decode cX9_isRead 27 = .ok (.iload_n 3, 1) := by decide +kernel
theorem dX9_isRead_28 : decode cX9_isRead 28 = .ok (.iadd, 1) := by decide +kernel
theorem dX9_isRead_29 : decode cX9_isRead 29 = .ok (.sipush 600, 3) := by decide +kernel
theorem dX9_isRead_32 : decode cX9_isRead 32 = .ok (.if_icmp .le 5, 3) := by decide +kernel
theorem dX9_isRead_35 : decode cX9_isRead 35 = .ok (.iconst 0, 1) := by decide +kernel
theorem dX9_isRead_36 : decode cX9_isRead 36 = .ok (.ireturn, 1) := by decide +kernel
theorem dX9_isRead_37 : decode cX9_isRead 37 = .ok (.iconst 0, 1) := by decide +kernel
theorem dX9_isRead_38 : decode cX9_isRead 38 = .ok (.istore 4, 2) := by decide +kernel
theorem dX9_isRead_40 : decode cX9_isRead 40 = .ok (.iload 4, 2) := by decide +kernel
theorem dX9_isRead_42 : decode cX9_isRead 42 = .ok (.iload_n 3, 1) := by decide +kernel
theorem dX9_isRead_43 : decode cX9_isRead 43 = .ok (.if_icmp .ge 34, 3) := by decide +kernel
theorem dX9_isRead_46 : decode cX9_isRead 46 = .ok (.aload_n 0, 1) := by decide +kernel
theorem dX9_isRead_47 : decode cX9_isRead 47 = .ok (.getfield 9, 3) := by decide +kernel
theorem dX9_isRead_50 : decode cX9_isRead 50 = .ok (.aload_n 0, 1) := by decide +kernel
theorem dX9_isRead_51 : decode cX9_isRead 51 = .ok (.getfield 28, 3) := by decide +kernel
theorem dX9_isRead_54 : decode cX9_isRead 54 = .ok (.iload 4, 2) := by decide +kernel
theorem dX9_isRead_56 : decode cX9_isRead 56 = .ok (.iadd, 1) := by decide +kernel
theorem dX9_isRead_57 : decode cX9_isRead 57 = .ok (.baload, 1) := by decide +kernel
theorem dX9_isRead_58 : decode cX9_isRead 58 = .ok (.aload_n 1, 1) := by decide +kernel
theorem dX9_isRead_59 : decode cX9_isRead 59 = .ok (.iload_n 2, 1) := by decide +kernel
theorem dX9_isRead_60 : decode cX9_isRead 60 = .ok (.iload 4, 2) := by decide +kernel
theorem dX9_isRead_62 : decode cX9_isRead 62 = .ok (.iadd, 1) := by decide +kernel
theorem dX9_isRead_63 : decode cX9_isRead 63 = .ok (.invokevirtual 51, 3) := by decide +kernel
theorem dX9_isRead_66 : decode cX9_isRead 66 = .ok (.if_icmp .eq 5, 3) := by decide +kernel
theorem dX9_isRead_69 : decode cX9_isRead 69 = .ok (.iconst 0, 1) := by decide +kernel
theorem dX9_isRead_70 : decode cX9_isRead 70 = .ok (.ireturn, 1) := by decide +kernel
theorem dX9_isRead_71 : decode cX9_isRead 71 = .ok (.iinc 4 1, 3) := by decide +kernel
theorem dX9_isRead_74 : decode cX9_isRead 74 = .ok (.goto (-34), 3) := by decide +kernel
theorem dX9_isRead_77 : decode cX9_isRead 77 = .ok (.iconst 1, 1) := by decide +kernel
theorem dX9_isRead_78 : decode cX9_isRead 78 = .ok (.ireturn, 1) := by decide +kernel
theorem dX9_isDigit_0 : decode cX9_isDigit 0 = .ok (.iload_n 0, 1) := by decide +kernel
theorem dX9_isDigit_1 : decode cX9_isDigit 1 = .ok (.bipush 48, 2) := by decide +kernel
theorem dX9_isDigit_3 : decode cX9_isDigit 3 = .ok (.if_icmp .lt 13, 3) := by decide +kernel
theorem dX9_isDigit_6 : decode cX9_isDigit 6 = .ok (.iload_n 0, 1) := by decide +kernel
theorem dX9_isDigit_7 : decode cX9_isDigit 7 = .ok (.bipush 57, 2) := by decide +kernel
theorem dX9_isDigit_9 : decode cX9_isDigit 9 = .ok (.if_icmp .gt 7, 3) := by decide +kernel
theorem dX9_isDigit_12 : decode cX9_isDigit 12 = .ok (.iconst 1, 1) := by decide +kernel
theorem dX9_isDigit_13 : decode cX9_isDigit 13 = .ok (.goto 4, 3) := by decide +kernel
theorem dX9_isDigit_16 : decode cX9_isDigit 16 = .ok (.iconst 0, 1) := by decide +kernel
theorem dX9_isDigit_17 : decode cX9_isDigit 17 = .ok (.ireturn, 1) := by decide +kernel
theorem dX9_isLetter_0 : decode cX9_isLetter 0 = .ok (.iload_n 0, 1) := by decide +kernel
theorem dX9_isLetter_1 : decode cX9_isLetter 1 = .ok (.bipush 97, 2) := by decide +kernel
theorem dX9_isLetter_3 : decode cX9_isLetter 3 = .ok (.if_icmp .lt 13, 3) := by decide +kernel
theorem dX9_isLetter_6 : decode cX9_isLetter 6 = .ok (.iload_n 0, 1) := by decide +kernel
theorem dX9_isLetter_7 : decode cX9_isLetter 7 = .ok (.bipush 122, 2) := by decide +kernel
theorem dX9_isLetter_9 : decode cX9_isLetter 9 = .ok (.if_icmp .gt 7, 3) := by decide +kernel
theorem dX9_isLetter_12 : decode cX9_isLetter 12 = .ok (.iconst 1, 1) := by decide +kernel
theorem dX9_isLetter_13 : decode cX9_isLetter 13 = .ok (.goto 4, 3) := by decide +kernel
theorem dX9_isLetter_16 : decode cX9_isLetter 16 = .ok (.iconst 0, 1) := by decide +kernel
theorem dX9_isLetter_17 : decode cX9_isLetter 17 = .ok (.ireturn, 1) := by decide +kernel
theorem dX10_init_0 : decode cX10_init 0 = .ok (.aload_n 0, 1) := by decide +kernel
theorem dX10_init_1 : decode cX10_init 1 = .ok (.invokespecial 3, 3) := by decide +kernel
theorem dX10_init_4 : decode cX10_init 4 = .ok (.aload_n 0, 1) := by decide +kernel
theorem dX10_init_5 : decode cX10_init 5 = .ok (.bipush 37, 2) := by decide +kernel
theorem dX10_init_7 : decode cX10_init 7 = .ok (.newarray .int, 2) := by decide +kernel
theorem dX10_init_9 : decode cX10_init 9 = .ok (.putfield 11, 3) := by decide +kernel
theorem dX10_init_12 : decode cX10_init 12 = .ok (.aload_n 0, 1) := by decide +kernel
theorem dX10_init_13 : decode cX10_init 13 = .ok (.bipush 37, 2) := by decide +kernel
theorem dX10_init_15 : decode cX10_init 15 = .ok (.newarray .int, 2) := by decide +kernel
theorem dX10_init_17 : decode cX10_init 17 = .ok (.putfield 15, 3) := by decide +kernel
theorem dX10_init_20 : decode cX10_init 20 = .ok (.aload_n 0, 1) := by decide +kernel
theorem dX10_init_21 : decode cX10_init 21 = .ok (.bipush 37, 2) := by decide +kernel
theorem dX10_init_23 : decode cX10_init 23 = .ok (.newarray .int, 2) := by decide +kernel
theorem dX10_init_25 : decode cX10_init 25 = .ok (.putfield 18, 3) := by decide +kernel
theorem dX10_init_28 : decode cX10_init 28 = .ok (.aload_n 0, 1) := by decide +kernel
theorem dX10_init_29 : decode cX10_init 29 = .ok (.bipush 37, 2) := by decide +kernel
theorem dX10_init_31 : decode cX10_init 31 = .ok (.newarray .int, 2) := by decide +kernel
theorem dX10_init_33 : decode cX10_init 33 = .ok (.putfield 21, 3) := by decide +kernel
theorem dX10_init_36 : decode cX10_init 36 = .ok (.aload_n 0, 1) := by decide +kernel
theorem dX10_init_37 : decode cX10_init 37 = .ok (.bipush 37, 2) := by decide +kernel
theorem dX10_init_39 : decode cX10_init 39 = .ok (.newarray .int, 2) := by decide +kernel
theorem dX10_init_41 : decode cX10_init 41 = .ok (.putfield 24, 3) := by decide +kernel
theorem dX10_init_44 : decode cX10_init 44 = .ok (.return_, 1) := by decide +kernel
theorem dX10_parse_0 : decode cX10_parse 0 = .ok (.aload_n 0, 1) := by decide +kernel
theorem dX10_parse_1 : decode cX10_parse 1 = .ok (.iconst 0, 1) := by decide +kernel
theorem dX10_parse_2 : decode cX10_parse 2 = .ok (.putfield 27, 3) := by decide +kernel
theorem dX10_parse_5 : decode cX10_parse 5 = .ok (.aload_n 0, 1) := by decide +kernel
theorem dX10_parse_6 : decode cX10_parse 6 = .ok (.aload_n 1, 1) := by decide +kernel
theorem dX10_parse_7 : decode cX10_parse 7 = .ok (.aload_n 2, 1) := by decide +kernel
theorem dX10_parse_8 : decode cX10_parse 8 = .ok (.iconst 0, 1) := by decide +kernel
theorem dX10_parse_9 : decode cX10_parse 9 = .ok (.invokevirtual 31, 3) := by decide +kernel
theorem dX10_parse_12 : decode cX10_parse 12 = .ok (.return_, 1) := by decide +kernel
theorem dX10_parseSteps_0 : decode cX10_parseSteps 0 = .ok (.iconst 0, 1) := by decide +kernel
theorem dX10_parseSteps_1 : decode cX10_parseSteps 1 = .ok (.istore 4, 2) := by decide +kernel
theorem dX10_parseSteps_3 : decode cX10_parseSteps 3 = .ok (.iload 4, 2) := by decide +kernel
theorem dX10_parseSteps_5 : decode cX10_parseSteps 5 = .ok (.bipush 37, 2) := by decide +kernel
theorem dX10_parseSteps_7 : decode cX10_parseSteps 7 = .ok (.if_icmp .gt 37, 3) := by decide +kernel
theorem dX10_parseSteps_10 : decode cX10_parseSteps 10 = .ok (.aload_n 1, 1) := by decide +kernel
theorem dX10_parseSteps_11 : decode cX10_parseSteps 11 = .ok (.invokevirtual 35, 3) := by decide +kernel
theorem dX10_parseSteps_14 : decode cX10_parseSteps 14 = .ok (.ifCond .eq 30, 3) := by decide +kernel
theorem dX10_parseSteps_17 : decode cX10_parseSteps 17 = .ok (.iload_n 3, 1) := by decide +kernel
theorem dX10_parseSteps_18 : decode cX10_parseSteps 18 = .ok (.ifCond .le 13, 3) := by decide +kernel
theorem dX10_parseSteps_21 : decode cX10_parseSteps 21 = .ok (.aload_n 1, 1) := by decide +kernel
theorem dX10_parseSteps_22 : decode cX10_parseSteps 22 = .ok (.bipush 93, 2) := by decide +kernel
theorem dX10_parseSteps_24 : decode cX10_parseSteps 24 = .ok (.invokevirtual 41, 3) := by decide +kernel
theorem dX10_parseSteps_27 : decode cX10_parseSteps 27 = .ok (.ifCond .eq 4, 3) := by decide +kernel
theorem dX10_parseSteps_30 : decode cX10_parseSteps 30 = .ok (.return_, 1) := by decide +kernel
theorem dX10_parseSteps_31 : decode cX10_parseSteps 31 = .ok (.aload_n 0, 1) := by decide +kernel
theorem dX10_parseSteps_32 : decode cX10_parseSteps 32 = .ok (.aload_n 1, 1) := by decide +kernel
theorem dX10_parseSteps_33 : decode cX10_parseSteps 33 = .ok (.aload_n 2, 1) := by decide +kernel
theorem dX10_parseSteps_34 : decode cX10_parseSteps 34 = .ok (.iload_n 3, 1) := by decide +kernel
theorem dX10_parseSteps_35 : decode cX10_parseSteps 35 = .ok (.invokevirtual 45, 3) := by decide +kernel
theorem dX10_parseSteps_38 : decode cX10_parseSteps 38 = .ok (.iinc 4 1, 3) := by decide +kernel
theorem dX10_parseSteps_41 : decode cX10_parseSteps 41 = .ok (.goto (-38), 3) := by decide +kernel
theorem dX10_parseSteps_44 : decode cX10_parseSteps 44 = .ok (.return_, 1) := by decide +kernel
theorem dX10_parseStep_0 : decode cX10_parseStep 0 = .ok (.aload_n 1, 1) := by decide +kernel
theorem dX10_parseStep_1 : decode cX10_parseStep 1 = .ok (.ldc 48, 2) := by decide +kernel
theorem dX10_parseStep_3 : decode cX10_parseStep 3 = .ok (.invokevirtual 50, 3) := by decide +kernel
theorem dX10_parseStep_6 : decode cX10_parseStep 6 = .ok (.istore 4, 2) := by decide +kernel
theorem dX10_parseStep_8 : decode cX10_parseStep 8 = .ok (.iload 4, 2) := by decide +kernel
theorem dX10_parseStep_10 : decode cX10_parseStep 10 = .ok (.bipush 9, 2) := by decide +kernel
theorem dX10_parseStep_12 : decode cX10_parseStep 12 = .ok (.if_icmp .ne 18, 3) := by decide +kernel
theorem dX10_parseStep_15 : decode cX10_parseStep 15 = .ok (.iload_n 3, 1) := by decide +kernel
theorem dX10_parseStep_16 : decode cX10_parseStep 16 = .ok (.bipush 6, 2) := by decide +kernel
theorem dX10_parseStep_18 : decode cX10_parseStep 18 = .ok (.if_icmp .lt 12, 3) := by decide +kernel
theorem dX10_parseStep_21 : decode cX10_parseStep 21 = .ok (.aload_n 1, 1) := by decide +kernel
theorem dX10_parseStep_22 : decode cX10_parseStep 22 = .ok (.iconst 3, 1) := by decide +kernel
theorem dX10_parseStep_23 : decode cX10_parseStep 23 = .ok (.aload_n 1, 1) := by decide +kernel
theorem dX10_parseStep_24 : decode cX10_parseStep 24 = .ok (.getfield 54, 3) := by decide +kernel
theorem dX10_parseStep_27 : decode cX10_parseStep 27 = .ok (.invokevirtual 57, 3) := by decide +kernel
theorem dX10_parseStep_30 : decode cX10_parseStep 30 = .ok (.aload_n 1, 1) := by decide +kernel
theorem dX10_parseStep_31 : decode cX10_parseStep 31 = .ok (.iload 4, 2) := by decide +kernel
theorem dX10_parseStep_33 : decode cX10_parseStep 33 = .ok (.aload_n 2, 1) := by decide +kernel
theorem dX10_parseStep_34 : decode cX10_parseStep 34 = .ok (.invokestatic 61, 3) := by decide +kernel
theorem dX10_parseStep_37 : decode cX10_parseStep 37 = .ok (.invokestatic 65, 3) := by decide +kernel
theorem dX10_parseStep_40 : decode cX10_parseStep 40 = .ok (.istore 5, 2) := by decide +kernel
theorem dX10_parseStep_42 : decode cX10_parseStep 42 = .ok (.aload_n 1, 1) := by decide +kernel
theorem dX10_parseStep_43 : decode cX10_parseStep 43 = .ok (.iload 4, 2) := by decide +kernel
theorem dX10_parseStep_45 : decode cX10_parseStep 45 = .ok (.aload_n 2, 1) := by decide +kernel
theorem dX10_parseStep_46 : decode cX10_parseStep 46 = .ok (.invokestatic 69, 3) := by decide +kernel
theorem dX10_parseStep_49 : decode cX10_parseStep 49 = .ok (.invokestatic 65, 3) := by decide +kernel
theorem dX10_parseStep_52 : decode cX10_parseStep 52 = .ok (.istore 6, 2) := by decide +kernel
theorem dX10_parseStep_54 : decode cX10_parseStep 54 = .ok (.aload_n 1, 1) := by decide +kernel
theorem dX10_parseStep_55 : decode cX10_parseStep 55 = .ok (.iload 4, 2) := by decide +kernel
theorem dX10_parseStep_57 : decode cX10_parseStep 57 = .ok (.invokestatic 72, 3) := by decide +kernel
theorem dX10_parseStep_60 : decode cX10_parseStep 60 = .ok (.invokestatic 65, 3) := by decide +kernel
theorem dX10_parseStep_63 : decode cX10_parseStep 63 = .ok (.istore 7, 2) := by decide +kernel
theorem dX10_parseStep_65 : decode cX10_parseStep 65 = .ok (.aload_n 1, 1) := by decide +kernel
theorem dX10_parseStep_66 : decode cX10_parseStep 66 = .ok (.invokevirtual 76, 3) := by decide +kernel
theorem dX10_parseStep_69 : decode cX10_parseStep 69 = .ok (.ifCond .ne 12, 3) := by decide +kernel
theorem dX10_parseStep_72 : decode cX10_parseStep 72 = .ok (.aload_n 0, 1) := by decide +kernel
theorem dX10_parseStep_73 : decode cX10_parseStep 73 = .ok (.getfield 27, 3) := by decide +kernel
theorem dX10_parseStep_76 : decode cX10_parseStep 76 = .ok (.bipush 37, 2) := by decide +kernel
theorem dX10_parseStep_78 : decode cX10_parseStep 78 = .ok (.if_icmp .lt 4, 3) := by decide +kernel
theorem dX10_parseStep_81 : decode cX10_parseStep 81 = .ok (.return_, 1) := by decide +kernel
theorem dX10_parseStep_82 : decode cX10_parseStep 82 = .ok (.aload_n 0, 1) := by decide +kernel
theorem dX10_parseStep_83 : decode cX10_parseStep 83 = .ok (.getfield 27, 3) := by decide +kernel
theorem dX10_parseStep_86 : decode cX10_parseStep 86 = .ok (.istore 8, 2) := by decide +kernel
theorem dX10_parseStep_88 : decode cX10_parseStep 88 = .ok (.aload_n 0, 1) := by decide +kernel
theorem dX10_parseStep_89 : decode cX10_parseStep 89 = .ok (.getfield 11, 3) := by decide +kernel
theorem dX10_parseStep_92 : decode cX10_parseStep 92 = .ok (.iload 8, 2) := by decide +kernel
theorem dX10_parseStep_94 : decode cX10_parseStep 94 = .ok (.iload 4, 2) := by decide +kernel
theorem dX10_parseStep_96 : decode cX10_parseStep 96 = .ok (.iastore, 1) := by decide +kernel
theorem dX10_parseStep_97 : decode cX10_parseStep 97 = .ok (.aload_n 0, 1) := by decide +kernel
theorem dX10_parseStep_98 : decode cX10_parseStep 98 = .ok (.getfield 15, 3) := by decide +kernel
theorem dX10_parseStep_101 : decode cX10_parseStep 101 = .ok (.iload 8, 2) := by decide +kernel
theorem dX10_parseStep_103 : decode cX10_parseStep 103 = .ok (.iload 5, 2) := by decide +kernel
theorem dX10_parseStep_105 : decode cX10_parseStep 105 = .ok (.iastore, 1) := by decide +kernel
theorem dX10_parseStep_106 : decode cX10_parseStep 106 = .ok (.aload_n 0, 1) := by decide +kernel
theorem dX10_parseStep_107 : decode cX10_parseStep 107 = .ok (.getfield 18, 3) := by decide +kernel
theorem dX10_parseStep_110 : decode cX10_parseStep 110 = .ok (.iload 8, 2) := by decide +kernel
theorem dX10_parseStep_112 : decode cX10_parseStep 112 = .ok (.iload 6, 2) := by decide +kernel
theorem dX10_parseStep_114 : decode cX10_parseStep 114 = .ok (.iastore, 1) := by decide +kernel
theorem dX10_parseStep_115 : decode cX10_parseStep 115 = .ok (.aload_n 0, 1) := by decide +kernel
theorem dX10_parseStep_116 : decode cX10_parseStep 116 = .ok (.getfield 21, 3) := by decide +kernel
theorem dX10_parseStep_119 : decode cX10_parseStep 119 = .ok (.iload 8, 2) := by decide +kernel
theorem dX10_parseStep_121 : decode cX10_parseStep 121 = .ok (.iload 7, 2) := by decide +kernel
theorem dX10_parseStep_123 : decode cX10_parseStep 123 = .ok (.iastore, 1) := by decide +kernel
theorem dX10_parseStep_124 : decode cX10_parseStep 124 = .ok (.aload_n 0, 1) := by decide +kernel
theorem dX10_parseStep_125 : decode cX10_parseStep 125 = .ok (.dup, 1) := by decide +kernel
theorem dX10_parseStep_126 : decode cX10_parseStep 126 = .ok (.getfield 27, 3) := by decide +kernel
theorem dX10_parseStep_129 : decode cX10_parseStep 129 = .ok (.iconst 1, 1) := by decide +kernel
theorem dX10_parseStep_130 : decode cX10_parseStep 130 = .ok (.iadd, 1) := by decide +kernel
theorem dX10_parseStep_131 : decode cX10_parseStep 131 = .ok (.putfield 27, 3) := by decide +kernel
theorem dX10_parseStep_134 : decode cX10_parseStep 134 = .ok (.iload 4, 2) := by decide +kernel
theorem dX10_parseStep_136 : decode cX10_parseStep 136 = .ok (.bipush 9, 2) := by decide +kernel
theorem dX10_parseStep_138 : decode cX10_parseStep 138 = .ok (.if_icmp .ne 24, 3) := by decide +kernel
theorem dX10_parseStep_141 : decode cX10_parseStep 141 = .ok (.aload_n 1, 1) := by decide +kernel
theorem dX10_parseStep_142 : decode cX10_parseStep 142 = .ok (.bipush 91, 2) := by decide +kernel
theorem dX10_parseStep_144 : decode cX10_parseStep 144 = .ok (.invokevirtual 79, 3) := by decide +kernel
theorem dX10_parseStep_147 : decode cX10_parseStep 147 = .ok (.aload_n 0, 1) := by decide +kernel
theorem dX10_parseStep_148 : decode cX10_parseStep 148 = .ok (.aload_n 1, 1) := by decide +kernel
theorem dX10_parseStep_149 : decode cX10_parseStep 149 = .ok (.aload_n 2, 1) := by decide +kernel
theorem dX10_parseStep_150 : decode cX10_parseStep 150 = .ok (.iload_n 3, 1) := by decide +kernel
theorem dX10_parseStep_151 : decode cX10_parseStep 151 = .ok (.iconst 1, 1) := by decide +kernel
theorem dX10_parseStep_152 : decode cX10_parseStep 152 = .ok (.iadd, 1) := by decide +kernel
theorem dX10_parseStep_153 : decode cX10_parseStep 153 = .ok (.invokevirtual 31, 3) := by decide +kernel
theorem dX10_parseStep_156 : decode cX10_parseStep 156 = .ok (.aload_n 1, 1) := by decide +kernel
theorem dX10_parseStep_157 : decode cX10_parseStep 157 = .ok (.bipush 93, 2) := by decide +kernel
theorem dX10_parseStep_159 : decode cX10_parseStep 159 = .ok (.invokevirtual 79, 3) := by decide +kernel
theorem dX10_parseStep_162 : decode cX10_parseStep 162 = .ok (.aload_n 0, 1) := by decide +kernel
theorem dX10_parseStep_163 : decode cX10_parseStep 163 = .ok (.getfield 24, 3) := by decide +kernel
theorem dX10_parseStep_166 : decode cX10_parseStep 166 = .ok (.iload 8, 2) := by decide +kernel
theorem dX10_parseStep_168 : decode cX10_parseStep 168 = .ok (.aload_n 0, 1) := by decide +kernel
theorem dX10_parseStep_169 : decode cX10_parseStep 169 = .ok (.getfield 27, 3) := by decide +kernel
theorem dX10_parseStep_172 : decode cX10_parseStep 172 = .ok (.iastore, 1) := by decide +kernel
theorem dX10_parseStep_173 : decode cX10_parseStep 173 = .ok (.aload_n 1, 1) := by decide +kernel
theorem dX10_parseStep_174 : decode cX10_parseStep 174 = .ok (.bipush 59, 2) := by decide +kernel
theorem dX10_parseStep_176 : decode cX10_parseStep 176 = .ok (.invokevirtual 79, 3) := by decide +kernel
theorem dX10_parseStep_179 : decode cX10_parseStep 179 = .ok (.return_, 1) := by decide +kernel
theorem dX10_operand_0 : decode cX10_operand 0 = .ok (.iload_n 1, 1) := by decide +kernel
theorem dX10_operand_1 : decode cX10_operand 1 = .ok (.bipush (-2), 2) := by decide +kernel
theorem dX10_operand_3 : decode cX10_operand 3 = .ok (.if_icmp .ne 7, 3) := by decide +kernel
theorem dX10_operand_6 : decode cX10_operand 6 = .ok (.iconst 0, 1) := by decide +kernel
theorem dX10_operand_7 : decode cX10_operand 7 = .ok (.goto 8, 3) := by decide +kernel
theorem dX10_operand_10 : decode cX10_operand 10 = .ok (.aload_n 0, 1) := by decide +kernel
theorem dX10_operand_11 : decode cX10_operand 11 = .ok (.iload_n 1, 1) := by decide +kernel
theorem dX10_operand_12 : decode cX10_operand 12 = .ok (.invokevirtual 83, 3) := by decide +kernel
theorem dX10_operand_15 : decode cX10_operand 15 = .ok (.ireturn, 1) := by decide +kernel
theorem dX10_firstMost_0 : decode cX10_firstMost 0 = .ok (.iload_n 0, 1) := by decide +kernel
theorem dX10_firstMost_1 : decode cX10_firstMost 1 = .ok (.lookupswitch 48 #[(2, 41), (8, 35), (9, 38)], 35) := by decide +kernel
theorem dX10_firstMost_36 : decode cX10_firstMost 36 = .ok (.bipush (-2), 2) := by decide +kernel
theorem dX10_firstMost_38 : decode cX10_firstMost 38 = .ok (.ireturn, 1) := by decide +kernel
theorem dX10_firstMost_39 : decode cX10_firstMost 39 = .ok (.bipush 60, 2) := by decide +kernel
theorem dX10_firstMost_41 : decode cX10_firstMost 41 = .ok (.ireturn, 1) := by decide +kernel
theorem dX10_firstMost_42 : decode cX10_firstMost 42 = .ok (.aload_n 1, 1) := by decide +kernel
theorem dX10_firstMost_43 : decode cX10_firstMost 43 = .ok (.getfield 86, 3) := by decide +kernel
theorem dX10_firstMost_46 : decode cX10_firstMost 46 = .ok (.iconst 1, 1) := by decide +kernel
theorem dX10_firstMost_47 : decode cX10_firstMost 47 = .ok (.isub, 1) := by decide +kernel
theorem dX10_firstMost_48 : decode cX10_firstMost 48 = .ok (.ireturn, 1) := by decide +kernel
theorem dX10_firstMost_49 : decode cX10_firstMost 49 = .ok (.aload_n 1, 1) := by decide +kernel
theorem dX10_firstMost_50 : decode cX10_firstMost 50 = .ok (.getfield 91, 3) := by decide +kernel
theorem dX10_firstMost_53 : decode cX10_firstMost 53 = .ok (.iconst 1, 1) := by decide +kernel
theorem dX10_firstMost_54 : decode cX10_firstMost 54 = .ok (.isub, 1) := by decide +kernel
theorem dX10_firstMost_55 : decode cX10_firstMost 55 = .ok (.ireturn, 1) := by decide +kernel
theorem dX10_secondMost_0 : decode cX10_secondMost 0 = .ok (.iload_n 0, 1) := by decide +kernel
theorem dX10_secondMost_1 : decode cX10_secondMost 1 = .ok (.tableswitch 63 0 7 #[47, 47, 63, 63, 63, 50, 53, 60], 47) := by decide +kernel
theorem dX10_secondMost_48 : decode cX10_secondMost 48 = .ok (.ldc 94, 2) := by decide +kernel
theorem dX10_secondMost_50 : decode cX10_secondMost 50 = .ok (.ireturn, 1) := by decide +kernel
theorem dX10_secondMost_51 : decode cX10_secondMost 51 = .ok (.bipush 24, 2) := by decide +kernel
theorem dX10_secondMost_53 : decode cX10_secondMost 53 = .ok (.ireturn, 1) := by decide +kernel
theorem dX10_secondMost_54 : decode cX10_secondMost 54 = .ok (.aload_n 1, 1) := by decide +kernel
theorem dX10_secondMost_55 : decode cX10_secondMost 55 = .ok (.getfield 91, 3) := by decide +kernel
theorem dX10_secondMost_58 : decode cX10_secondMost 58 = .ok (.iconst 1, 1) := by decide +kernel
theorem dX10_secondMost_59 : decode cX10_secondMost 59 = .ok (.isub, 1) := by decide +kernel
theorem dX10_secondMost_60 : decode cX10_secondMost 60 = .ok (.ireturn, 1) := by decide +kernel
theorem dX10_secondMost_61 : decode cX10_secondMost 61 = .ok (.bipush 99, 2) := by decide +kernel
theorem dX10_secondMost_63 : decode cX10_secondMost 63 = .ok (.ireturn, 1) := by decide +kernel
theorem dX10_secondMost_64 : decode cX10_secondMost 64 = .ok (.bipush (-2), 2) := by decide +kernel
theorem dX10_secondMost_66 : decode cX10_secondMost 66 = .ok (.ireturn, 1) := by decide +kernel
theorem dX10_thirdMost_0 : decode cX10_thirdMost 0 = .ok (.iload_n 0, 1) := by decide +kernel
theorem dX10_thirdMost_1 : decode cX10_thirdMost 1 = .ok (.tableswitch 33 5 7 #[27, 27, 30], 27) := by decide +kernel
theorem dX10_thirdMost_28 : decode cX10_thirdMost 28 = .ok (.bipush 24, 2) := by decide +kernel
theorem dX10_thirdMost_30 : decode cX10_thirdMost 30 = .ok (.ireturn, 1) := by decide +kernel
theorem dX10_thirdMost_31 : decode cX10_thirdMost 31 = .ok (.bipush 99, 2) := by decide +kernel
theorem dX10_thirdMost_33 : decode cX10_thirdMost 33 = .ok (.ireturn, 1) := by decide +kernel
theorem dX10_thirdMost_34 : decode cX10_thirdMost 34 = .ok (.bipush (-2), 2) := by decide +kernel
theorem dX10_thirdMost_36 : decode cX10_thirdMost 36 = .ok (.ireturn, 1) := by decide +kernel
theorem dX10_begin_0 : decode cX10_begin 0 = .ok (.aload_n 0, 1) := by decide +kernel
theorem dX10_begin_1 : decode cX10_begin 1 = .ok (.iconst 0, 1) := by decide +kernel
theorem dX10_begin_2 : decode cX10_begin 2 = .ok (.putfield 95, 3) := by decide +kernel
theorem dX10_begin_5 : decode cX10_begin 5 = .ok (.aload_n 0, 1) := by decide +kernel
theorem dX10_begin_6 : decode cX10_begin 6 = .ok (.iconst 0, 1) := by decide +kernel
theorem dX10_begin_7 : decode cX10_begin 7 = .ok (.putfield 98, 3) := by decide +kernel
theorem dX10_begin_10 : decode cX10_begin 10 = .ok (.aload_n 0, 1) := by decide +kernel
theorem dX10_begin_11 : decode cX10_begin 11 = .ok (.iconst 0, 1) := by decide +kernel
theorem dX10_begin_12 : decode cX10_begin 12 = .ok (.putfield 101, 3) := by decide +kernel
theorem dX10_begin_15 : decode cX10_begin 15 = .ok (.return_, 1) := by decide +kernel
theorem dX10_run_0 : decode cX10_run 0 = .ok (.iload 4, 2) := by decide +kernel
theorem dX10_run_2 : decode cX10_run 2 = .ok (.istore 7, 2) := by decide +kernel
theorem dX10_run_4 : decode cX10_run 4 = .ok (.iload 7, 2) := by decide +kernel
theorem dX10_run_6 : decode cX10_run 6 = .ok (.iload 5, 2) := by decide +kernel
theorem dX10_run_8 : decode cX10_run 8 = .ok (.if_icmp .ge 149, 3) := by decide +kernel
theorem dX10_run_11 : decode cX10_run 11 = .ok (.iload 7, 2) := by decide +kernel
theorem dX10_run_13 : decode cX10_run 13 = .ok (.bipush 37, 2) := by decide +kernel
theorem dX10_run_15 : decode cX10_run 15 = .ok (.if_icmp .ge 142, 3) := by decide +kernel
theorem dX10_run_18 : decode cX10_run 18 = .ok (.aload_n 0, 1) := by decide +kernel
theorem dX10_run_19 : decode cX10_run 19 = .ok (.getfield 95, 3) := by decide +kernel
theorem dX10_run_22 : decode cX10_run 22 = .ok (.sipush 200, 3) := by decide +kernel
theorem dX10_run_25 : decode cX10_run 25 = .ok (.if_icmp .ge 132, 3) := by decide +kernel
theorem dX10_run_28 : decode cX10_run 28 = .ok (.aload_n 0, 1) := by decide +kernel
theorem dX10_run_29 : decode cX10_run 29 = .ok (.dup, 1) := by decide +kernel
theorem dX10_run_30 : decode cX10_run 30 = .ok (.getfield 95, 3) := by decide +kernel
theorem dX10_run_33 : decode cX10_run 33 = .ok (.iconst 1, 1) := by decide +kernel
theorem dX10_run_34 : decode cX10_run 34 = .ok (.iadd, 1) := by decide +kernel
theorem dX10_run_35 : decode cX10_run 35 = .ok (.putfield 95, 3) := by decide +kernel
theorem dX10_run_38 : decode cX10_run 38 = .ok (.aload_n 0, 1) := by decide +kernel
theorem dX10_run_39 : decode cX10_run 39 = .ok (.getfield 11, 3) := by decide +kernel
theorem dX10_run_42 : decode cX10_run 42 = .ok (.iload 7, 2) := by decide +kernel
theorem dX10_run_44 : decode cX10_run 44 = .ok (.iaload, 1) := by decide +kernel
theorem dX10_run_45 : decode cX10_run 45 = .ok (.bipush 9, 2) := by decide +kernel
theorem dX10_run_47 : decode cX10_run 47 = .ok (.if_icmp .ne 56, 3) := by decide +kernel
theorem dX10_run_50 : decode cX10_run 50 = .ok (.iconst 0, 1) := by decide +kernel
theorem dX10_run_51 : decode cX10_run 51 = .ok (.istore 8, 2) := by decide +kernel
theorem dX10_run_53 : decode cX10_run 53 = .ok (.iload 8, 2) := by decide +kernel
theorem dX10_run_55 : decode cX10_run 55 = .ok (.aload_n 0, 1) := by decide +kernel
theorem dX10_run_56 : decode cX10_run 56 = .ok (.getfield 15, 3) := by decide +kernel
theorem dX10_run_59 : decode cX10_run 59 = .ok (.iload 7, 2) := by decide +kernel
theorem dX10_run_61 : decode cX10_run 61 = .ok (.iaload, 1) := by decide +kernel
theorem dX10_run_62 : decode cX10_run 62 = .ok (.if_icmp .ge 38, 3) := by decide +kernel
theorem dX10_run_65 : decode cX10_run 65 = .ok (.iload 6, 2) := by decide +kernel
theorem dX10_run_67 : decode cX10_run 67 = .ok (.bipush 6, 2) := by decide +kernel
theorem dX10_run_69 : decode cX10_run 69 = .ok (.if_icmp .ge 31, 3) := by decide +kernel
theorem dX10_run_72 : decode cX10_run 72 = .ok (.aload_n 0, 1) := by decide +kernel
theorem dX10_run_73 : decode cX10_run 73 = .ok (.aload_n 1, 1) := by decide +kernel
theorem dX10_run_74 : decode cX10_run 74 = .ok (.aload_n 2, 1) := by decide +kernel
theorem dX10_run_75 : decode cX10_run 75 = .ok (.aload_n 3, 1) := by decide +kernel
theorem dX10_run_76 : decode cX10_run 76 = .ok (.iload 7, 2) := by decide +kernel
theorem dX10_run_78 : decode cX10_run 78 = .ok (.iconst 1, 1) := by decide +kernel
theorem dX10_run_79 : decode cX10_run 79 = .ok (.iadd, 1) := by decide +kernel
theorem dX10_run_80 : decode cX10_run 80 = .ok (.aload_n 0, 1) := by decide +kernel
theorem dX10_run_81 : decode cX10_run 81 = .ok (.getfield 24, 3) := by decide +kernel
theorem dX10_run_84 : decode cX10_run 84 = .ok (.iload 7, 2) := by decide +kernel
theorem dX10_run_86 : decode cX10_run 86 = .ok (.iaload, 1) := by decide +kernel
theorem dX10_run_87 : decode cX10_run 87 = .ok (.iload 6, 2) := by decide +kernel
theorem dX10_run_89 : decode cX10_run 89 = .ok (.iconst 1, 1) := by decide +kernel
theorem dX10_run_90 : decode cX10_run 90 = .ok (.iadd, 1) := by decide +kernel
theorem dX10_run_91 : decode cX10_run 91 = .ok (.invokestatic 104, 3) := by decide +kernel
theorem dX10_run_94 : decode cX10_run 94 = .ok (.iinc 8 1, 3) := by decide +kernel
theorem dX10_run_97 : decode cX10_run 97 = .ok (.goto (-44), 3) := by decide +kernel
theorem dX10_run_100 : decode cX10_run 100 = .ok (.goto 38, 3) := by decide +kernel
theorem dX10_run_103 : decode cX10_run 103 = .ok (.aload_n 0, 1) := by decide +kernel
theorem dX10_run_104 : decode cX10_run 104 = .ok (.aload_n 1, 1) := by decide +kernel
theorem dX10_run_105 : decode cX10_run 105 = .ok (.aload_n 2, 1) := by decide +kernel
theorem dX10_run_106 : decode cX10_run 106 = .ok (.aload_n 3, 1) := by decide +kernel
theorem dX10_run_107 : decode cX10_run 107 = .ok (.iload 7, 2) := by decide +kernel
theorem dX10_run_109 : decode cX10_run 109 = .ok (.invokevirtual 108, 3) := by decide +kernel
theorem dX10_run_112 : decode cX10_run 112 = .ok (.ifCond .eq 16, 3) := by decide +kernel
theorem dX10_run_115 : decode cX10_run 115 = .ok (.aload_n 0, 1) := by decide +kernel
theorem dX10_run_116 : decode cX10_run 116 = .ok (.dup, 1) := by decide +kernel
theorem dX10_run_117 : decode cX10_run 117 = .ok (.getfield 98, 3) := by decide +kernel
theorem dX10_run_120 : decode cX10_run 120 = .ok (.iconst 1, 1) := by decide +kernel
theorem dX10_run_121 : decode cX10_run 121 = .ok (.iadd, 1) := by decide +kernel
theorem dX10_run_122 : decode cX10_run 122 = .ok (.putfield 98, 3) := by decide +kernel
theorem dX10_run_125 : decode cX10_run 125 = .ok (.goto 13, 3) := by decide +kernel
theorem dX10_run_128 : decode cX10_run 128 = .ok (.aload_n 0, 1) := by decide +kernel
theorem dX10_run_129 : decode cX10_run 129 = .ok (.dup, 1) := by decide +kernel
theorem dX10_run_130 : decode cX10_run 130 = .ok (.getfield 101, 3) := by decide +kernel
theorem dX10_run_133 : decode cX10_run 133 = .ok (.iconst 1, 1) := by decide +kernel
theorem dX10_run_134 : decode cX10_run 134 = .ok (.iadd, 1) := by decide +kernel
theorem dX10_run_135 : decode cX10_run 135 = .ok (.putfield 101, 3) := by decide +kernel
theorem dX10_run_138 : decode cX10_run 138 = .ok (.iload 7, 2) := by decide +kernel
theorem dX10_run_140 : decode cX10_run 140 = .ok (.iconst 1, 1) := by decide +kernel
theorem dX10_run_141 : decode cX10_run 141 = .ok (.iadd, 1) := by decide +kernel
theorem dX10_run_142 : decode cX10_run 142 = .ok (.aload_n 0, 1) := by decide +kernel
theorem dX10_run_143 : decode cX10_run 143 = .ok (.getfield 24, 3) := by decide +kernel
theorem dX10_run_146 : decode cX10_run 146 = .ok (.iload 7, 2) := by decide +kernel
theorem dX10_run_148 : decode cX10_run 148 = .ok (.iaload, 1) := by decide +kernel
theorem dX10_run_149 : decode cX10_run 149 = .ok (.invokestatic 112, 3) := by decide +kernel
theorem dX10_run_152 : decode cX10_run 152 = .ok (.istore 7, 2) := by decide +kernel
theorem dX10_run_154 : decode cX10_run 154 = .ok (.goto (-150), 3) := by decide +kernel
theorem dX10_run_157 : decode cX10_run 157 = .ok (.return_, 1) := by decide +kernel
theorem dX10_isDone_0 : decode cX10_isDone 0 = .ok (.aload_n 0, 1) := by decide +kernel
theorem dX10_isDone_1 : decode cX10_isDone 1 = .ok (.getfield 15, 3) := by decide +kernel
theorem dX10_isDone_4 : decode cX10_isDone 4 = .ok (.iload 4, 2) := by decide +kernel
theorem dX10_isDone_6 : decode cX10_isDone 6 = .ok (.iaload, 1) := by decide +kernel
theorem dX10_isDone_7 : decode cX10_isDone 7 = .ok (.istore 5, 2) := by decide +kernel
theorem dX10_isDone_9 : decode cX10_isDone 9 = .ok (.aload_n 0, 1) := by decide +kernel
theorem dX10_isDone_10 : decode cX10_isDone 10 = .ok (.getfield 11, 3) := by decide +kernel
theorem dX10_isDone_13 : decode cX10_isDone 13 = .ok (.iload 4, 2) := by decide +kernel
theorem dX10_isDone_15 : decode cX10_isDone 15 = .ok (.iaload, 1) := by decide +kernel
theorem dX10_isDone_16 : decode cX10_isDone 16 = .ok (.tableswitch 202 0 7 #[48, 63, 79, 99, 110, 121, 147, 177], 48) := by decide +kernel
theorem dX10_isDone_64 : decode cX10_isDone 64 = .ok (.aload_n 1, 1) := by decide +kernel
theorem dX10_isDone_65 : decode cX10_isDone 65 = .ok (.iload 5, 2) := by decide +kernel
theorem dX10_isDone_67 : decode cX10_isDone 67 = .ok (.aload_n 0, 1) := by decide +kernel
theorem dX10_isDone_68 : decode cX10_isDone 68 = .ok (.getfield 18, 3) := by decide +kernel
theorem dX10_isDone_71 : decode cX10_isDone 71 = .ok (.iload 4, 2) := by decide +kernel
theorem dX10_isDone_73 : decode cX10_isDone 73 = .ok (.iaload, 1) := by decide +kernel
theorem dX10_isDone_74 : decode cX10_isDone 74 = .ok (.aload_n 3, 1) := by decide +kernel
theorem dX10_isDone_75 : decode cX10_isDone 75 = .ok (.invokevirtual 118, 3) := by decide +kernel
theorem dX10_isDone_78 : decode cX10_isDone 78 = .ok (.ireturn, 1) := by decide +kernel
theorem dX10_isDone_79 : decode cX10_isDone 79 = .ok (.aload_n 1, 1) := by decide +kernel
theorem dX10_isDone_80 : decode cX10_isDone 80 = .ok (.iload 5, 2) := by decide +kernel
theorem dX10_isDone_82 : decode cX10_isDone 82 = .ok (.aload_n 0, 1) := by decide +kernel
theorem dX10_isDone_83 : decode cX10_isDone 83 = .ok (.getfield 18, 3) := by decide +kernel
theorem dX10_isDone_86 : decode cX10_isDone 86 = .ok (.iload 4, 2) := by decide +kernel
theorem dX10_isDone_88 : decode cX10_isDone 88 = .ok (.iaload, 1) := by decide +kernel
theorem dX10_isDone_89 : decode cX10_isDone 89 = .ok (.ineg, 1) := by decide +kernel
theorem dX10_isDone_90 : decode cX10_isDone 90 = .ok (.aload_n 3, 1) := by decide +kernel
theorem dX10_isDone_91 : decode cX10_isDone 91 = .ok (.invokevirtual 118, 3) := by decide +kernel
theorem dX10_isDone_94 : decode cX10_isDone 94 = .ok (.ireturn, 1) := by decide +kernel
theorem dX10_isDone_95 : decode cX10_isDone 95 = .ok (.aload_n 1, 1) := by decide +kernel
theorem dX10_isDone_96 : decode cX10_isDone 96 = .ok (.aload_n 2, 1) := by decide +kernel
theorem dX10_isDone_97 : decode cX10_isDone 97 = .ok (.getfield 124, 3) := by decide +kernel
theorem dX10_isDone_100 : decode cX10_isDone 100 = .ok (.iload 5, 2) := by decide +kernel
theorem dX10_isDone_102 : decode cX10_isDone 102 = .ok (.iaload, 1) := by decide +kernel
theorem dX10_isDone_103 : decode cX10_isDone 103 = .ok (.aload_n 2, 1) := by decide +kernel
theorem dX10_isDone_104 : decode cX10_isDone 104 = .ok (.getfield 127, 3) := by decide +kernel
theorem dX10_isDone_107 : decode cX10_isDone 107 = .ok (.iload 5, 2) := by decide +kernel
theorem dX10_isDone_109 : decode cX10_isDone 109 = .ok (.iaload, 1) := by decide +kernel
theorem dX10_isDone_110 : decode cX10_isDone 110 = .ok (.aload_n 3, 1) := by decide +kernel
theorem dX10_isDone_111 : decode cX10_isDone 111 = .ok (.invokevirtual 130, 3) := by decide +kernel
theorem dX10_isDone_114 : decode cX10_isDone 114 = .ok (.ireturn, 1) := by decide +kernel
theorem dX10_isDone_115 : decode cX10_isDone 115 = .ok (.aload_n 1, 1) := by decide +kernel
theorem dX10_isDone_116 : decode cX10_isDone 116 = .ok (.getfield 133, 3) := by decide +kernel
theorem dX10_isDone_119 : decode cX10_isDone 119 = .ok (.iload 5, 2) := by decide +kernel
theorem dX10_isDone_121 : decode cX10_isDone 121 = .ok (.aaload, 1) := by decide +kernel
theorem dX10_isDone_122 : decode cX10_isDone 122 = .ok (.invokevirtual 136, 3) := by decide +kernel
theorem dX10_isDone_125 : decode cX10_isDone 125 = .ok (.ireturn, 1) := by decide +kernel
theorem dX10_isDone_126 : decode cX10_isDone 126 = .ok (.aload_n 1, 1) := by decide +kernel
theorem dX10_isDone_127 : decode cX10_isDone 127 = .ok (.getfield 133, 3) := by decide +kernel
theorem dX10_isDone_130 : decode cX10_isDone 130 = .ok (.iload 5, 2) := by decide +kernel
theorem dX10_isDone_132 : decode cX10_isDone 132 = .ok (.aaload, 1) := by decide +kernel
theorem dX10_isDone_133 : decode cX10_isDone 133 = .ok (.invokevirtual 141, 3) := by decide +kernel
theorem dX10_isDone_136 : decode cX10_isDone 136 = .ok (.ireturn, 1) := by decide +kernel
theorem dX10_isDone_137 : decode cX10_isDone 137 = .ok (.aload_n 1, 1) := by decide +kernel
theorem dX10_isDone_138 : decode cX10_isDone 138 = .ok (.getfield 133, 3) := by decide +kernel
theorem dX10_isDone_141 : decode cX10_isDone 141 = .ok (.iload 5, 2) := by decide +kernel
theorem dX10_isDone_143 : decode cX10_isDone 143 = .ok (.aaload, 1) := by decide +kernel
theorem dX10_isDone_144 : decode cX10_isDone 144 = .ok (.aload_n 0, 1) := by decide +kernel
theorem dX10_isDone_145 : decode cX10_isDone 145 = .ok (.getfield 18, 3) := by decide +kernel
theorem dX10_isDone_148 : decode cX10_isDone 148 = .ok (.iload 4, 2) := by decide +kernel
theorem dX10_isDone_150 : decode cX10_isDone 150 = .ok (.iaload, 1) := by decide +kernel
theorem dX10_isDone_151 : decode cX10_isDone 151 = .ok (.aload_n 0, 1) := by decide +kernel
theorem dX10_isDone_152 : decode cX10_isDone 152 = .ok (.getfield 21, 3) := by decide +kernel
theorem dX10_isDone_155 : decode cX10_isDone 155 = .ok (.iload 4, 2) := by decide +kernel
theorem dX10_isDone_157 : decode cX10_isDone 157 = .ok (.iaload, 1) := by decide +kernel
theorem dX10_isDone_158 : decode cX10_isDone 158 = .ok (.isub, 1) := by decide +kernel
theorem dX10_isDone_159 : decode cX10_isDone 159 = .ok (.invokevirtual 144, 3) := by decide +kernel
theorem dX10_isDone_162 : decode cX10_isDone 162 = .ok (.ireturn, 1) := by decide +kernel
theorem dX10_isDone_163 : decode cX10_isDone 163 = .ok (.aload_n 1, 1) := by decide +kernel
theorem dX10_isDone_164 : decode cX10_isDone 164 = .ok (.getfield 133, 3) := by decide +kernel
theorem dX10_isDone_167 : decode cX10_isDone 167 = .ok (.aload_n 0, 1) := by decide +kernel
theorem dX10_isDone_168 : decode cX10_isDone 168 = .ok (.getfield 18, 3) := by decide +kernel
theorem dX10_isDone_171 : decode cX10_isDone 171 = .ok (.iload 4, 2) := by decide +kernel
theorem dX10_isDone_173 : decode cX10_isDone 173 = .ok (.iaload, 1) := by decide +kernel
theorem dX10_isDone_174 : decode cX10_isDone 174 = .ok (.aaload, 1) := by decide +kernel
theorem dX10_isDone_175 : decode cX10_isDone 175 = .ok (.aload_n 1, 1) := by decide +kernel
theorem dX10_isDone_176 : decode cX10_isDone 176 = .ok (.getfield 133, 3) := by decide +kernel
theorem dX10_isDone_179 : decode cX10_isDone 179 = .ok (.iload 5, 2) := by decide +kernel
theorem dX10_isDone_181 : decode cX10_isDone 181 = .ok (.aaload, 1) := by decide +kernel
theorem dX10_isDone_182 : decode cX10_isDone 182 = .ok (.aload_n 0, 1) := by decide +kernel
theorem dX10_isDone_183 : decode cX10_isDone 183 = .ok (.getfield 21, 3) := by decide +kernel
theorem dX10_isDone_186 : decode cX10_isDone 186 = .ok (.iload 4, 2) := by decide +kernel
theorem dX10_isDone_188 : decode cX10_isDone 188 = .ok (.iaload, 1) := by decide +kernel
theorem dX10_isDone_189 : decode cX10_isDone 189 = .ok (.invokevirtual 148, 3) := by decide +kernel
theorem dX10_isDone_192 : decode cX10_isDone 192 = .ok (.ireturn, 1) := by decide +kernel
theorem dX10_isDone_193 : decode cX10_isDone 193 = .ok (.aload_n 1, 1) := by decide +kernel
theorem dX10_isDone_194 : decode cX10_isDone 194 = .ok (.getfield 133, 3) := by decide +kernel
theorem dX10_isDone_197 : decode cX10_isDone 197 = .ok (.iload 5, 2) := by decide +kernel
theorem dX10_isDone_199 : decode cX10_isDone 199 = .ok (.aaload, 1) := by decide +kernel
theorem dX10_isDone_200 : decode cX10_isDone 200 = .ok (.aload_n 0, 1) := by decide +kernel
theorem dX10_isDone_201 : decode cX10_isDone 201 = .ok (.getfield 18, 3) := by decide +kernel
theorem dX10_isDone_204 : decode cX10_isDone 204 = .ok (.iload 4, 2) := by decide +kernel
theorem dX10_isDone_206 : decode cX10_isDone 206 = .ok (.iaload, 1) := by decide +kernel
theorem dX10_isDone_207 : decode cX10_isDone 207 = .ok (.aload_n 0, 1) := by decide +kernel
theorem dX10_isDone_208 : decode cX10_isDone 208 = .ok (.getfield 21, 3) := by decide +kernel
theorem dX10_isDone_211 : decode cX10_isDone 211 = .ok (.iload 4, 2) := by decide +kernel
theorem dX10_isDone_213 : decode cX10_isDone 213 = .ok (.iaload, 1) := by decide +kernel
theorem dX10_isDone_214 : decode cX10_isDone 214 = .ok (.invokevirtual 152, 3) := by decide +kernel
theorem dX10_isDone_217 : decode cX10_isDone 217 = .ok (.ireturn, 1) := by decide +kernel
theorem dX10_isDone_218 : decode cX10_isDone 218 = .ok (.aload_n 1, 1) := by decide +kernel
theorem dX10_isDone_219 : decode cX10_isDone 219 = .ok (.invokestatic 156, 3) := by decide +kernel
theorem dX10_isDone_222 : decode cX10_isDone 222 = .ok (.ireturn, 1) := by decide +kernel
theorem dX10_isDayDone_0 : decode cX10_isDayDone 0 = .ok (.aload_n 0, 1) := by decide +kernel
theorem dX10_isDayDone_1 : decode cX10_isDayDone 1 = .ok (.getfield 160, 3) := by decide +kernel
theorem dX10_isDayDone_4 : decode cX10_isDayDone 4 = .ok (.sipush 900, 3) := by decide +kernel
theorem dX10_isDayDone_7 : decode cX10_isDayDone 7 = .ok (.if_icmp .lt 5, 3) := by decide +kernel
theorem dX10_isDayDone_10 : decode cX10_isDayDone 10 = .ok (.iconst 0, 1) := by decide +kernel
theorem dX10_isDayDone_11 : decode cX10_isDayDone 11 = .ok (.ireturn, 1) := by decide +kernel
theorem dX10_isDayDone_12 : decode cX10_isDayDone 12 = .ok (.aload_n 0, 1) := by decide +kernel
theorem dX10_isDayDone_13 : decode cX10_isDayDone 13 = .ok (.invokevirtual 163, 3) := by decide +kernel
theorem dX10_isDayDone_16 : decode cX10_isDayDone 16 = .ok (.iconst 1, 1) := by decide +kernel
theorem dX10_isDayDone_17 : decode cX10_isDayDone 17 = .ok (.ireturn, 1) := by decide +kernel
theorem dX11_init_0 : decode cX11_init 0 = .ok (.aload_n 0, 1) := by decide +kernel
theorem dX11_init_1 : decode cX11_init 1 = .ok (.invokespecial 1, 3) := by decide +kernel
theorem dX11_init_4 : decode cX11_init 4 = .ok (.aload_n 0, 1) := by decide +kernel
theorem dX11_init_5 : decode cX11_init 5 = .ok (.new 7, 3) := by decide +kernel
theorem dX11_init_8 : decode cX11_init 8 = .ok (.dup, 1) := by decide +kernel
theorem dX11_init_9 : decode cX11_init 9 = .ok (.invokespecial 9, 3) := by decide +kernel
theorem dX11_init_12 : decode cX11_init 12 = .ok (.putfield 10, 3) := by decide +kernel
theorem dX11_init_15 : decode cX11_init 15 = .ok (.aload_n 0, 1) := by decide +kernel
theorem dX11_init_16 : decode cX11_init 16 = .ok (.new 16, 3) := by decide +kernel
theorem dX11_init_19 : decode cX11_init 19 = .ok (.dup, 1) := by decide +kernel
theorem dX11_init_20 : decode cX11_init 20 = .ok (.invokespecial 18, 3) := by decide +kernel
theorem dX11_init_23 : decode cX11_init 23 = .ok (.putfield 19, 3) := by decide +kernel
theorem dX11_init_26 : decode cX11_init 26 = .ok (.aload_n 0, 1) := by decide +kernel
theorem dX11_init_27 : decode cX11_init 27 = .ok (.new 23, 3) := by decide +kernel
theorem dX11_init_30 : decode cX11_init 30 = .ok (.dup, 1) := by decide +kernel
theorem dX11_init_31 : decode cX11_init 31 = .ok (.invokespecial 25, 3) := by decide +kernel
theorem dX11_init_34 : decode cX11_init 34 = .ok (.putfield 26, 3) := by decide +kernel
theorem dX11_init_37 : decode cX11_init 37 = .ok (.aload_n 0, 1) := by decide +kernel
theorem dX11_init_38 : decode cX11_init 38 = .ok (.new 30, 3) := by decide +kernel
theorem dX11_init_41 : decode cX11_init 41 = .ok (.dup, 1) := by decide +kernel
theorem dX11_init_42 : decode cX11_init 42 = .ok (.invokespecial 32, 3) := by decide +kernel
theorem dX11_init_45 : decode cX11_init 45 = .ok (.putfield 33, 3) := by decide +kernel
theorem dX11_init_48 : decode cX11_init 48 = .ok (.aload_n 0, 1) := by decide +kernel
theorem dX11_init_49 : decode cX11_init 49 = .ok (.new 37, 3) := by decide +kernel
theorem dX11_init_52 : decode cX11_init 52 = .ok (.dup, 1) := by decide +kernel
theorem dX11_init_53 : decode cX11_init 53 = .ok (.invokespecial 39, 3) := by decide +kernel
theorem dX11_init_56 : decode cX11_init 56 = .ok (.putfield 40, 3) := by decide +kernel
theorem dX11_init_59 : decode cX11_init 59 = .ok (.aload_n 0, 1) := by decide +kernel
theorem dX11_init_60 : decode cX11_init 60 = .ok (.new 44, 3) := by decide +kernel
theorem dX11_init_63 : decode cX11_init 63 = .ok (.dup, 1) := by decide +kernel
theorem dX11_init_64 : decode cX11_init 64 = .ok (.invokespecial 46, 3) := by decide +kernel
theorem dX11_init_67 : decode cX11_init 67 = .ok (.putfield 47, 3) := by decide +kernel
theorem dX11_init_70 : decode cX11_init 70 = .ok (.aload_n 0, 1) := by decide +kernel
theorem dX11_init_71 : decode cX11_init 71 = .ok (.new 51, 3) := by decide +kernel
theorem dX11_init_74 : decode cX11_init 74 = .ok (.dup, 1) := by decide +kernel
theorem dX11_init_75 : decode cX11_init 75 = .ok (.invokespecial 53, 3) := by decide +kernel
theorem dX11_init_78 : decode cX11_init 78 = .ok (.putfield 54, 3) := by decide +kernel
theorem dX11_init_81 : decode cX11_init 81 = .ok (.aload_n 0, 1) := by decide +kernel
theorem dX11_init_82 : decode cX11_init 82 = .ok (.sipush 1001, 3) := by decide +kernel
theorem dX11_init_85 : decode cX11_init 85 = .ok (.newarray .int, 2) := by decide +kernel
theorem dX11_init_87 : decode cX11_init 87 = .ok (.putfield 58, 3) := by decide +kernel
theorem dX11_init_90 : decode cX11_init 90 = .ok (.aload_n 0, 1) := by decide +kernel
theorem dX11_init_91 : decode cX11_init 91 = .ok (.iconst 5, 1) := by decide +kernel
theorem dX11_init_92 : decode cX11_init 92 = .ok (.newarray .int, 2) := by decide +kernel
theorem dX11_init_94 : decode cX11_init 94 = .ok (.putfield 62, 3) := by decide +kernel
theorem dX11_init_97 : decode cX11_init 97 = .ok (.aload_n 0, 1) := by decide +kernel
theorem dX11_init_98 : decode cX11_init 98 = .ok (.new 65, 3) := by decide +kernel
theorem dX11_init_101 : decode cX11_init 101 = .ok (.dup, 1) := by decide +kernel
theorem dX11_init_102 : decode cX11_init 102 = .ok (.invokespecial 67, 3) := by decide +kernel
theorem dX11_init_105 : decode cX11_init 105 = .ok (.putfield 68, 3) := by decide +kernel
theorem dX11_init_108 : decode cX11_init 108 = .ok (.aload_n 0, 1) := by decide +kernel
theorem dX11_init_109 : decode cX11_init 109 = .ok (.new 65, 3) := by decide +kernel
theorem dX11_init_112 : decode cX11_init 112 = .ok (.dup, 1) := by decide +kernel
theorem dX11_init_113 : decode cX11_init 113 = .ok (.invokespecial 67, 3) := by decide +kernel
theorem dX11_init_116 : decode cX11_init 116 = .ok (.putfield 72, 3) := by decide +kernel
theorem dX11_init_119 : decode cX11_init 119 = .ok (.aload_n 0, 1) := by decide +kernel
theorem dX11_init_120 : decode cX11_init 120 = .ok (.new 75, 3) := by decide +kernel
theorem dX11_init_123 : decode cX11_init 123 = .ok (.dup, 1) := by decide +kernel
theorem dX11_init_124 : decode cX11_init 124 = .ok (.invokespecial 77, 3) := by decide +kernel
theorem dX11_init_127 : decode cX11_init 127 = .ok (.putfield 78, 3) := by decide +kernel
theorem dX11_init_130 : decode cX11_init 130 = .ok (.aload_n 0, 1) := by decide +kernel
theorem dX11_init_131 : decode cX11_init 131 = .ok (.new 75, 3) := by decide +kernel
theorem dX11_init_134 : decode cX11_init 134 = .ok (.dup, 1) := by decide +kernel
theorem dX11_init_135 : decode cX11_init 135 = .ok (.invokespecial 77, 3) := by decide +kernel
theorem dX11_init_138 : decode cX11_init 138 = .ok (.putfield 82, 3) := by decide +kernel
theorem dX11_init_141 : decode cX11_init 141 = .ok (.aload_n 0, 1) := by decide +kernel
theorem dX11_init_142 : decode cX11_init 142 = .ok (.new 85, 3) := by decide +kernel
theorem dX11_init_145 : decode cX11_init 145 = .ok (.dup, 1) := by decide +kernel
theorem dX11_init_146 : decode cX11_init 146 = .ok (.invokespecial 87, 3) := by decide +kernel
theorem dX11_init_149 : decode cX11_init 149 = .ok (.putfield 88, 3) := by decide +kernel
theorem dX11_init_152 : decode cX11_init 152 = .ok (.aload_n 0, 1) := by decide +kernel
theorem dX11_init_153 : decode cX11_init 153 = .ok (.new 85, 3) := by decide +kernel
theorem dX11_init_156 : decode cX11_init 156 = .ok (.dup, 1) := by decide +kernel
theorem dX11_init_157 : decode cX11_init 157 = .ok (.invokespecial 87, 3) := by decide +kernel
theorem dX11_init_160 : decode cX11_init 160 = .ok (.putfield 92, 3) := by decide +kernel
theorem dX11_init_163 : decode cX11_init 163 = .ok (.aload_n 0, 1) := by decide +kernel
theorem dX11_init_164 : decode cX11_init 164 = .ok (.new 95, 3) := by decide +kernel
theorem dX11_init_167 : decode cX11_init 167 = .ok (.dup, 1) := by decide +kernel
theorem dX11_init_168 : decode cX11_init 168 = .ok (.invokespecial 97, 3) := by decide +kernel
theorem dX11_init_171 : decode cX11_init 171 = .ok (.putfield 98, 3) := by decide +kernel
theorem dX11_init_174 : decode cX11_init 174 = .ok (.aload_n 0, 1) := by decide +kernel
theorem dX11_init_175 : decode cX11_init 175 = .ok (.new 95, 3) := by decide +kernel
theorem dX11_init_178 : decode cX11_init 178 = .ok (.dup, 1) := by decide +kernel
theorem dX11_init_179 : decode cX11_init 179 = .ok (.invokespecial 97, 3) := by decide +kernel
theorem dX11_init_182 : decode cX11_init 182 = .ok (.putfield 102, 3) := by decide +kernel
theorem dX11_init_185 : decode cX11_init 185 = .ok (.return_, 1) := by decide +kernel
theorem dX11_feed_0 : decode cX11_feed 0 = .ok (.aload_n 0, 1) := by decide +kernel
theorem dX11_feed_1 : decode cX11_feed 1 = .ok (.getfield 10, 3) := by decide +kernel
theorem dX11_feed_4 : decode cX11_feed 4 = .ok (.getfield 105, 3) := by decide +kernel
theorem dX11_feed_7 : decode cX11_feed 7 = .ok (.sipush 580, 3) := by decide +kernel
theorem dX11_feed_10 : decode cX11_feed 10 = .ok (.if_icmp .le 5, 3) := by decide +kernel
theorem dX11_feed_13 : decode cX11_feed 13 = .ok (.iconst (-1), 1) := by decide +kernel
theorem dX11_feed_14 : decode cX11_feed 14 = .ok (.ireturn, 1) := by decide +kernel
theorem dX11_feed_15 : decode cX11_feed 15 = .ok (.aload_n 0, 1) := by decide +kernel
theorem dX11_feed_16 : decode cX11_feed 16 = .ok (.getfield 10, 3) := by decide +kernel
theorem dX11_feed_19 : decode cX11_feed 19 = .ok (.iload_n 1, 1) := by decide +kernel
theorem dX11_feed_20 : decode cX11_feed 20 = .ok (.invokevirtual 109, 3) := by decide +kernel
theorem dX11_feed_23 : decode cX11_feed 23 = .ok (.aload_n 0, 1) := by decide +kernel
theorem dX11_feed_24 : decode cX11_feed 24 = .ok (.getfield 10, 3) := by decide +kernel
theorem dX11_feed_27 : decode cX11_feed 27 = .ok (.iload_n 2, 1) := by decide +kernel
theorem dX11_feed_28 : decode cX11_feed 28 = .ok (.invokevirtual 109, 3) := by decide +kernel
theorem dX11_feed_31 : decode cX11_feed 31 = .ok (.aload_n 0, 1) := by decide +kernel
theorem dX11_feed_32 : decode cX11_feed 32 = .ok (.getfield 10, 3) := by decide +kernel
theorem dX11_feed_35 : decode cX11_feed 35 = .ok (.iload_n 3, 1) := by decide +kernel
theorem dX11_feed_36 : decode cX11_feed 36 = .ok (.invokevirtual 109, 3) := by decide +kernel
theorem dX11_feed_39 : decode cX11_feed 39 = .ok (.aload_n 0, 1) := by decide +kernel
theorem dX11_feed_40 : decode cX11_feed 40 = .ok (.getfield 10, 3) := by decide +kernel
theorem dX11_feed_43 : decode cX11_feed 43 = .ok (.iload 4, 2) := by decide +kernel
theorem dX11_feed_45 : decode cX11_feed 45 = .ok (.invokevirtual 109, 3) := by decide +kernel
theorem dX11_feed_48 : decode cX11_feed 48 = .ok (.aload_n 0, 1) := by decide +kernel
theorem dX11_feed_49 : decode cX11_feed 49 = .ok (.getfield 10, 3) := by decide +kernel
theorem dX11_feed_52 : decode cX11_feed 52 = .ok (.iload 5, 2) := by decide +kernel
theorem dX11_feed_54 : decode cX11_feed 54 = .ok (.invokevirtual 109, 3) := by decide +kernel
theorem dX11_feed_57 : decode cX11_feed 57 = .ok (.aload_n 0, 1) := by decide +kernel
theorem dX11_feed_58 : decode cX11_feed 58 = .ok (.getfield 10, 3) := by decide +kernel
theorem dX11_feed_61 : decode cX11_feed 61 = .ok (.getfield 105, 3) := by decide +kernel
theorem dX11_feed_64 : decode cX11_feed 64 = .ok (.ireturn, 1) := by decide +kernel
theorem dX11_hut_0 : decode cX11_hut 0 = .ok (.aload_n 0, 1) := by decide +kernel
theorem dX11_hut_1 : decode cX11_hut 1 = .ok (.iload_n 1, 1) := by decide +kernel
theorem dX11_hut_2 : decode cX11_hut 2 = .ok (.sipush 600, 3) := by decide +kernel
theorem dX11_hut_5 : decode cX11_hut 5 = .ok (.invokevirtual 113, 3) := by decide +kernel
theorem dX11_hut_8 : decode cX11_hut 8 = .ok (.aload_n 0, 1) := by decide +kernel
theorem dX11_hut_9 : decode cX11_hut 9 = .ok (.getfield 10, 3) := by decide +kernel
theorem dX11_hut_12 : decode cX11_hut 12 = .ok (.iload_n 1, 1) := by decide +kernel
theorem dX11_hut_13 : decode cX11_hut 13 = .ok (.invokevirtual 117, 3) := by decide +kernel
theorem dX11_hut_16 : decode cX11_hut 16 = .ok (.aload_n 0, 1) := by decide +kernel
theorem dX11_hut_17 : decode cX11_hut 17 = .ok (.getfield 72, 3) := by decide +kernel
theorem dX11_hut_20 : decode cX11_hut 20 = .ok (.aload_n 0, 1) := by decide +kernel
theorem dX11_hut_21 : decode cX11_hut 21 = .ok (.getfield 10, 3) := by decide +kernel
theorem dX11_hut_24 : decode cX11_hut 24 = .ok (.invokevirtual 120, 3) := by decide +kernel
theorem dX11_hut_27 : decode cX11_hut 27 = .ok (.aload_n 0, 1) := by decide +kernel
theorem dX11_hut_28 : decode cX11_hut 28 = .ok (.getfield 10, 3) := by decide +kernel
theorem dX11_hut_31 : decode cX11_hut 31 = .ok (.invokevirtual 124, 3) := by decide +kernel
theorem dX11_hut_34 : decode cX11_hut 34 = .ok (.ifCond .eq 14, 3) := by decide +kernel
theorem dX11_hut_37 : decode cX11_hut 37 = .ok (.aload_n 0, 1) := by decide +kernel
theorem dX11_hut_38 : decode cX11_hut 38 = .ok (.getfield 10, 3) := by decide +kernel
theorem dX11_hut_41 : decode cX11_hut 41 = .ok (.getfield 128, 3) := by decide +kernel
theorem dX11_hut_44 : decode cX11_hut 44 = .ok (.bipush 10, 2) := by decide +kernel
theorem dX11_hut_46 : decode cX11_hut 46 = .ok (.isub, 1) := by decide +kernel
theorem dX11_hut_47 : decode cX11_hut 47 = .ok (.ireturn, 1) := by decide +kernel
theorem dX11_hut_48 : decode cX11_hut 48 = .ok (.aload_n 0, 1) := by decide +kernel
theorem dX11_hut_49 : decode cX11_hut 49 = .ok (.getfield 68, 3) := by decide +kernel
theorem dX11_hut_52 : decode cX11_hut 52 = .ok (.astore_n 2, 1) := by decide +kernel
theorem dX11_hut_53 : decode cX11_hut 53 = .ok (.aload_n 0, 1) := by decide +kernel
theorem dX11_hut_54 : decode cX11_hut 54 = .ok (.aload_n 0, 1) := by decide +kernel
theorem dX11_hut_55 : decode cX11_hut 55 = .ok (.getfield 72, 3) := by decide +kernel
theorem dX11_hut_58 : decode cX11_hut 58 = .ok (.putfield 68, 3) := by decide +kernel
theorem dX11_hut_61 : decode cX11_hut 61 = .ok (.aload_n 0, 1) := by decide +kernel
theorem dX11_hut_62 : decode cX11_hut 62 = .ok (.aload_n 2, 1) := by decide +kernel
theorem dX11_hut_63 : decode cX11_hut 63 = .ok (.putfield 72, 3) := by decide +kernel
theorem dX11_hut_66 : decode cX11_hut 66 = .ok (.aload_n 0, 1) := by decide +kernel
theorem dX11_hut_67 : decode cX11_hut 67 = .ok (.getfield 33, 3) := by decide +kernel
theorem dX11_hut_70 : decode cX11_hut 70 = .ok (.aload_n 0, 1) := by decide +kernel
theorem dX11_hut_71 : decode cX11_hut 71 = .ok (.getfield 68, 3) := by decide +kernel
theorem dX11_hut_74 : decode cX11_hut 74 = .ok (.invokevirtual 131, 3) := by decide +kernel
theorem dX11_hut_77 : decode cX11_hut 77 = .ok (.aload_n 0, 1) := by decide +kernel
theorem dX11_hut_78 : decode cX11_hut 78 = .ok (.getfield 78, 3) := by decide +kernel
theorem dX11_hut_81 : decode cX11_hut 81 = .ok (.invokevirtual 135, 3) := by decide +kernel
theorem dX11_hut_84 : decode cX11_hut 84 = .ok (.aload_n 0, 1) := by decide +kernel
theorem dX11_hut_85 : decode cX11_hut 85 = .ok (.getfield 88, 3) := by decide +kernel
theorem dX11_hut_88 : decode cX11_hut 88 = .ok (.invokevirtual 138, 3) := by decide +kernel
theorem dX11_hut_91 : decode cX11_hut 91 = .ok (.aload_n 0, 1) := by decide +kernel
theorem dX11_hut_92 : decode cX11_hut 92 = .ok (.getfield 98, 3) := by decide +kernel
theorem dX11_hut_95 : decode cX11_hut 95 = .ok (.invokevirtual 139, 3) := by decide +kernel
theorem dX11_hut_98 : decode cX11_hut 98 = .ok (.aload_n 0, 1) := by decide +kernel
theorem dX11_hut_99 : decode cX11_hut 99 = .ok (.getfield 26, 3) := by decide +kernel
theorem dX11_hut_102 : decode cX11_hut 102 = .ok (.invokevirtual 140, 3) := by decide +kernel
theorem dX11_hut_105 : decode cX11_hut 105 = .ok (.aload_n 0, 1) := by decide +kernel
theorem dX11_hut_106 : decode cX11_hut 106 = .ok (.iconst 0, 1) := by decide +kernel
theorem dX11_hut_107 : decode cX11_hut 107 = .ok (.putfield 141, 3) := by decide +kernel
theorem dX11_hut_110 : decode cX11_hut 110 = .ok (.aload_n 0, 1) := by decide +kernel
theorem dX11_hut_111 : decode cX11_hut 111 = .ok (.getfield 68, 3) := by decide +kernel
theorem dX11_hut_114 : decode cX11_hut 114 = .ok (.getfield 144, 3) := by decide +kernel
theorem dX11_hut_117 : decode cX11_hut 117 = .ok (.ireturn, 1) := by decide +kernel
theorem dX11_law_0 : decode cX11_law 0 = .ok (.aload_n 0, 1) := by decide +kernel
theorem dX11_law_1 : decode cX11_law 1 = .ok (.iload_n 1, 1) := by decide +kernel
theorem dX11_law_2 : decode cX11_law 2 = .ok (.sipush 150, 3) := by decide +kernel
theorem dX11_law_5 : decode cX11_law 5 = .ok (.invokevirtual 113, 3) := by decide +kernel
theorem dX11_law_8 : decode cX11_law 8 = .ok (.aload_n 0, 1) := by decide +kernel
theorem dX11_law_9 : decode cX11_law 9 = .ok (.getfield 10, 3) := by decide +kernel
theorem dX11_law_12 : decode cX11_law 12 = .ok (.iload_n 1, 1) := by decide +kernel
theorem dX11_law_13 : decode cX11_law 13 = .ok (.invokevirtual 117, 3) := by decide +kernel
theorem dX11_law_16 : decode cX11_law 16 = .ok (.aload_n 0, 1) := by decide +kernel
theorem dX11_law_17 : decode cX11_law 17 = .ok (.getfield 82, 3) := by decide +kernel
theorem dX11_law_20 : decode cX11_law 20 = .ok (.aload_n 0, 1) := by decide +kernel
theorem dX11_law_21 : decode cX11_law 21 = .ok (.getfield 10, 3) := by decide +kernel
theorem dX11_law_24 : decode cX11_law 24 = .ok (.invokevirtual 147, 3) := by decide +kernel
theorem dX11_law_27 : decode cX11_law 27 = .ok (.aload_n 0, 1) := by decide +kernel
theorem dX11_law_28 : decode cX11_law 28 = .ok (.getfield 10, 3) := by decide +kernel
theorem dX11_law_31 : decode cX11_law 31 = .ok (.invokevirtual 124, 3) := by decide +kernel
theorem dX11_law_34 : decode cX11_law 34 = .ok (.ifCond .eq 14, 3) := by decide +kernel
theorem dX11_law_37 : decode cX11_law 37 = .ok (.aload_n 0, 1) := by decide +kernel
theorem dX11_law_38 : decode cX11_law 38 = .ok (.getfield 10, 3) := by decide +kernel
theorem dX11_law_41 : decode cX11_law 41 = .ok (.getfield 128, 3) := by decide +kernel
theorem dX11_law_44 : decode cX11_law 44 = .ok (.bipush 10, 2) := by decide +kernel
theorem dX11_law_46 : decode cX11_law 46 = .ok (.isub, 1) := by decide +kernel
theorem dX11_law_47 : decode cX11_law 47 = .ok (.ireturn, 1) := by decide +kernel
theorem dX11_law_48 : decode cX11_law 48 = .ok (.aload_n 0, 1) := by decide +kernel
theorem dX11_law_49 : decode cX11_law 49 = .ok (.getfield 78, 3) := by decide +kernel
theorem dX11_law_52 : decode cX11_law 52 = .ok (.astore_n 2, 1) := by decide +kernel
theorem dX11_law_53 : decode cX11_law 53 = .ok (.aload_n 0, 1) := by decide +kernel
theorem dX11_law_54 : decode cX11_law 54 = .ok (.aload_n 0, 1) := by decide +kernel
theorem dX11_law_55 : decode cX11_law 55 = .ok (.getfield 82, 3) := by decide +kernel
theorem dX11_law_58 : decode cX11_law 58 = .ok (.putfield 78, 3) := by decide +kernel
theorem dX11_law_61 : decode cX11_law 61 = .ok (.aload_n 0, 1) := by decide +kernel
theorem dX11_law_62 : decode cX11_law 62 = .ok (.aload_n 2, 1) := by decide +kernel
theorem dX11_law_63 : decode cX11_law 63 = .ok (.putfield 82, 3) := by decide +kernel
theorem dX11_law_66 : decode cX11_law 66 = .ok (.iconst 1, 1) := by decide +kernel
theorem dX11_law_67 : decode cX11_law 67 = .ok (.ireturn, 1) := by decide +kernel
theorem dX11_work_0 : decode cX11_work 0 = .ok (.aload_n 0, 1) := by decide +kernel
theorem dX11_work_1 : decode cX11_work 1 = .ok (.iload_n 1, 1) := by decide +kernel
theorem dX11_work_2 : decode cX11_work 2 = .ok (.sipush 150, 3) := by decide +kernel
theorem dX11_work_5 : decode cX11_work 5 = .ok (.invokevirtual 113, 3) := by decide +kernel
theorem dX11_work_8 : decode cX11_work 8 = .ok (.aload_n 0, 1) := by decide +kernel
theorem dX11_work_9 : decode cX11_work 9 = .ok (.getfield 26, 3) := by decide +kernel
theorem dX11_work_12 : decode cX11_work 12 = .ok (.getfield 148, 3) := by decide +kernel
theorem dX11_work_15 : decode cX11_work 15 = .ok (.bipush 16, 2) := by decide +kernel
theorem dX11_work_17 : decode cX11_work 17 = .ok (.if_icmp .lt 14, 3) := by decide +kernel
theorem dX11_work_20 : decode cX11_work 20 = .ok (.aload_n 0, 1) := by decide +kernel
theorem dX11_work_21 : decode cX11_work 21 = .ok (.getfield 10, 3) := by decide +kernel
theorem dX11_work_24 : decode cX11_work 24 = .ok (.iconst 0, 1) := by decide +kernel
theorem dX11_work_25 : decode cX11_work 25 = .ok (.invokevirtual 117, 3) := by decide +kernel
theorem dX11_work_28 : decode cX11_work 28 = .ok (.bipush (-20), 2) := by decide +kernel
theorem dX11_work_30 : decode cX11_work 30 = .ok (.ireturn, 1) := by decide +kernel
theorem dX11_work_31 : decode cX11_work 31 = .ok (.aload_n 0, 1) := by decide +kernel
theorem dX11_work_32 : decode cX11_work 32 = .ok (.getfield 10, 3) := by decide +kernel
theorem dX11_work_35 : decode cX11_work 35 = .ok (.iload_n 1, 1) := by decide +kernel
theorem dX11_work_36 : decode cX11_work 36 = .ok (.invokevirtual 117, 3) := by decide +kernel
theorem dX11_work_39 : decode cX11_work 39 = .ok (.aload_n 0, 1) := by decide +kernel
theorem dX11_work_40 : decode cX11_work 40 = .ok (.getfield 19, 3) := by decide +kernel
theorem dX11_work_43 : decode cX11_work 43 = .ok (.aload_n 0, 1) := by decide +kernel
theorem dX11_work_44 : decode cX11_work 44 = .ok (.getfield 10, 3) := by decide +kernel
theorem dX11_work_47 : decode cX11_work 47 = .ok (.aload_n 0, 1) := by decide +kernel
theorem dX11_work_48 : decode cX11_work 48 = .ok (.getfield 68, 3) := by decide +kernel
theorem dX11_work_51 : decode cX11_work 51 = .ok (.invokevirtual 151, 3) := by decide +kernel
theorem dX11_work_54 : decode cX11_work 54 = .ok (.aload_n 0, 1) := by decide +kernel
theorem dX11_work_55 : decode cX11_work 55 = .ok (.getfield 10, 3) := by decide +kernel
theorem dX11_work_58 : decode cX11_work 58 = .ok (.invokevirtual 124, 3) := by decide +kernel
theorem dX11_work_61 : decode cX11_work 61 = .ok (.ifCond .eq 14, 3) := by decide +kernel
theorem dX11_work_64 : decode cX11_work 64 = .ok (.aload_n 0, 1) := by decide +kernel
theorem dX11_work_65 : decode cX11_work 65 = .ok (.getfield 10, 3) := by decide +kernel
theorem dX11_work_68 : decode cX11_work 68 = .ok (.getfield 128, 3) := by decide +kernel
theorem dX11_work_71 : decode cX11_work 71 = .ok (.bipush 10, 2) := by decide +kernel
theorem dX11_work_73 : decode cX11_work 73 = .ok (.isub, 1) := by decide +kernel
theorem dX11_work_74 : decode cX11_work 74 = .ok (.ireturn, 1) := by decide +kernel
theorem dX11_work_75 : decode cX11_work 75 = .ok (.aload_n 0, 1) := by decide +kernel
theorem dX11_work_76 : decode cX11_work 76 = .ok (.getfield 26, 3) := by decide +kernel
theorem dX11_work_79 : decode cX11_work 79 = .ok (.aload_n 0, 1) := by decide +kernel
theorem dX11_work_80 : decode cX11_work 80 = .ok (.getfield 33, 3) := by decide +kernel
theorem dX11_work_83 : decode cX11_work 83 = .ok (.invokevirtual 154, 3) := by decide +kernel
theorem dX11_work_86 : decode cX11_work 86 = .ok (.aload_n 0, 1) := by decide +kernel
theorem dX11_work_87 : decode cX11_work 87 = .ok (.getfield 19, 3) := by decide +kernel
theorem dX11_work_90 : decode cX11_work 90 = .ok (.invokevirtual 158, 3) := by decide +kernel
theorem dX11_work_93 : decode cX11_work 93 = .ok (.aload_n 0, 1) := by decide +kernel
theorem dX11_work_94 : decode cX11_work 94 = .ok (.getfield 19, 3) := by decide +kernel
theorem dX11_work_97 : decode cX11_work 97 = .ok (.aload_n 0, 1) := by decide +kernel
theorem dX11_work_98 : decode cX11_work 98 = .ok (.getfield 33, 3) := by decide +kernel
theorem dX11_work_101 : decode cX11_work 101 = .ok (.aload_n 0, 1) := by decide +kernel
theorem dX11_work_102 : decode cX11_work 102 = .ok (.getfield 68, 3) := by decide +kernel
theorem dX11_work_105 : decode cX11_work 105 = .ok (.aload_n 0, 1) := by decide +kernel
theorem dX11_work_106 : decode cX11_work 106 = .ok (.getfield 78, 3) := by decide +kernel
theorem dX11_work_109 : decode cX11_work 109 = .ok (.iconst 0, 1) := by decide +kernel
theorem dX11_work_110 : decode cX11_work 110 = .ok (.aload_n 0, 1) := by decide +kernel
theorem dX11_work_111 : decode cX11_work 111 = .ok (.getfield 19, 3) := by decide +kernel
theorem dX11_work_114 : decode cX11_work 114 = .ok (.getfield 160, 3) := by decide +kernel
theorem dX11_work_117 : decode cX11_work 117 = .ok (.iconst 0, 1) := by decide +kernel
theorem dX11_work_118 : decode cX11_work 118 = .ok (.invokestatic 163, 3) := by decide +kernel
theorem dX11_work_121 : decode cX11_work 121 = .ok (.aload_n 0, 1) := by decide +kernel
theorem dX11_work_122 : decode cX11_work 122 = .ok (.aload_n 0, 1) := by decide +kernel
theorem dX11_work_123 : decode cX11_work 123 = .ok (.getfield 19, 3) := by decide +kernel
theorem dX11_work_126 : decode cX11_work 126 = .ok (.getfield 167, 3) := by decide +kernel
theorem dX11_work_129 : decode cX11_work 129 = .ok (.putfield 141, 3) := by decide +kernel
theorem dX11_work_132 : decode cX11_work 132 = .ok (.aload_n 0, 1) := by decide +kernel
theorem dX11_work_133 : decode cX11_work 133 = .ok (.getfield 19, 3) := by decide +kernel
theorem dX11_work_136 : decode cX11_work 136 = .ok (.getfield 170, 3) := by decide +kernel
theorem dX11_work_139 : decode cX11_work 139 = .ok (.ireturn, 1) := by decide +kernel
theorem dX11_chain_0 : decode cX11_chain 0 = .ok (.aload_n 0, 1) := by decide +kernel
theorem dX11_chain_1 : decode cX11_chain 1 = .ok (.iload_n 1, 1) := by decide +kernel
theorem dX11_chain_2 : decode cX11_chain 2 = .ok (.bipush 60, 2) := by decide +kernel
theorem dX11_chain_4 : decode cX11_chain 4 = .ok (.invokevirtual 113, 3) := by decide +kernel
theorem dX11_chain_7 : decode cX11_chain 7 = .ok (.aload_n 0, 1) := by decide +kernel
theorem dX11_chain_8 : decode cX11_chain 8 = .ok (.getfield 10, 3) := by decide +kernel
theorem dX11_chain_11 : decode cX11_chain 11 = .ok (.iload_n 1, 1) := by decide +kernel
theorem dX11_chain_12 : decode cX11_chain 12 = .ok (.invokevirtual 117, 3) := by decide +kernel
theorem dX11_chain_15 : decode cX11_chain 15 = .ok (.aload_n 0, 1) := by decide +kernel
theorem dX11_chain_16 : decode cX11_chain 16 = .ok (.getfield 92, 3) := by decide +kernel
theorem dX11_chain_19 : decode cX11_chain 19 = .ok (.aload_n 0, 1) := by decide +kernel
theorem dX11_chain_20 : decode cX11_chain 20 = .ok (.getfield 10, 3) := by decide +kernel
theorem dX11_chain_23 : decode cX11_chain 23 = .ok (.aload_n 0, 1) := by decide +kernel
theorem dX11_chain_24 : decode cX11_chain 24 = .ok (.getfield 68, 3) := by decide +kernel
theorem dX11_chain_27 : decode cX11_chain 27 = .ok (.getfield 144, 3) := by decide +kernel
theorem dX11_chain_30 : decode cX11_chain 30 = .ok (.invokevirtual 173, 3) := by decide +kernel
theorem dX11_chain_33 : decode cX11_chain 33 = .ok (.aload_n 0, 1) := by decide +kernel
theorem dX11_chain_34 : decode cX11_chain 34 = .ok (.getfield 10, 3) := by decide +kernel
theorem dX11_chain_37 : decode cX11_chain 37 = .ok (.invokevirtual 124, 3) := by decide +kernel
theorem dX11_chain_40 : decode cX11_chain 40 = .ok (.ifCond .eq 14, 3) := by decide +kernel
theorem dX11_chain_43 : decode cX11_chain 43 = .ok (.aload_n 0, 1) := by decide +kernel
theorem dX11_chain_44 : decode cX11_chain 44 = .ok (.getfield 10, 3) := by decide +kernel
theorem dX11_chain_47 : decode cX11_chain 47 = .ok (.getfield 128, 3) := by decide +kernel
theorem dX11_chain_50 : decode cX11_chain 50 = .ok (.bipush 10, 2) := by decide +kernel
theorem dX11_chain_52 : decode cX11_chain 52 = .ok (.isub, 1) := by decide +kernel
theorem dX11_chain_53 : decode cX11_chain 53 = .ok (.ireturn, 1) := by decide +kernel
theorem dX11_chain_54 : decode cX11_chain 54 = .ok (.aload_n 0, 1) := by decide +kernel
theorem dX11_chain_55 : decode cX11_chain 55 = .ok (.getfield 88, 3) := by decide +kernel
theorem dX11_chain_58 : decode cX11_chain 58 = .ok (.astore_n 2, 1) := by decide +kernel
theorem dX11_chain_59 : decode cX11_chain 59 = .ok (.aload_n 0, 1) := by decide +kernel
theorem dX11_chain_60 : decode cX11_chain 60 = .ok (.aload_n 0, 1) := by decide +kernel
theorem dX11_chain_61 : decode cX11_chain 61 = .ok (.getfield 92, 3) := by decide +kernel
theorem dX11_chain_64 : decode cX11_chain 64 = .ok (.putfield 88, 3) := by decide +kernel
theorem dX11_chain_67 : decode cX11_chain 67 = .ok (.aload_n 0, 1) := by decide +kernel
theorem dX11_chain_68 : decode cX11_chain 68 = .ok (.aload_n 2, 1) := by decide +kernel
theorem dX11_chain_69 : decode cX11_chain 69 = .ok (.putfield 92, 3) := by decide +kernel
theorem dX11_chain_72 : decode cX11_chain 72 = .ok (.aload_n 0, 1) := by decide +kernel
theorem dX11_chain_73 : decode cX11_chain 73 = .ok (.getfield 88, 3) := by decide +kernel
theorem dX11_chain_76 : decode cX11_chain 76 = .ok (.getfield 176, 3) := by decide +kernel
theorem dX11_chain_79 : decode cX11_chain 79 = .ok (.ireturn, 1) := by decide +kernel
theorem dX11_book_0 : decode cX11_book 0 = .ok (.aload_n 0, 1) := by decide +kernel
theorem dX11_book_1 : decode cX11_book 1 = .ok (.iload_n 1, 1) := by decide +kernel
theorem dX11_book_2 : decode cX11_book 2 = .ok (.bipush 60, 2) := by decide +kernel
theorem dX11_book_4 : decode cX11_book 4 = .ok (.invokevirtual 113, 3) := by decide +kernel
theorem dX11_book_7 : decode cX11_book 7 = .ok (.aload_n 0, 1) := by decide +kernel
theorem dX11_book_8 : decode cX11_book 8 = .ok (.getfield 10, 3) := by decide +kernel
theorem dX11_book_11 : decode cX11_book 11 = .ok (.iload_n 1, 1) := by decide +kernel
theorem dX11_book_12 : decode cX11_book 12 = .ok (.invokevirtual 117, 3) := by decide +kernel
theorem dX11_book_15 : decode cX11_book 15 = .ok (.aload_n 0, 1) := by decide +kernel
theorem dX11_book_16 : decode cX11_book 16 = .ok (.getfield 102, 3) := by decide +kernel
theorem dX11_book_19 : decode cX11_book 19 = .ok (.aload_n 0, 1) := by decide +kernel
theorem dX11_book_20 : decode cX11_book 20 = .ok (.getfield 10, 3) := by decide +kernel
theorem dX11_book_23 : decode cX11_book 23 = .ok (.invokevirtual 179, 3) := by decide +kernel
theorem dX11_book_26 : decode cX11_book 26 = .ok (.aload_n 0, 1) := by decide +kernel
theorem dX11_book_27 : decode cX11_book 27 = .ok (.getfield 10, 3) := by decide +kernel
theorem dX11_book_30 : decode cX11_book 30 = .ok (.invokevirtual 124, 3) := by decide +kernel
theorem dX11_book_33 : decode cX11_book 33 = .ok (.ifCond .eq 14, 3) := by decide +kernel
theorem dX11_book_36 : decode cX11_book 36 = .ok (.aload_n 0, 1) := by decide +kernel
theorem dX11_book_37 : decode cX11_book 37 = .ok (.getfield 10, 3) := by decide +kernel
theorem dX11_book_40 : decode cX11_book 40 = .ok (.getfield 128, 3) := by decide +kernel
theorem dX11_book_43 : decode cX11_book 43 = .ok (.bipush 10, 2) := by decide +kernel
theorem dX11_book_45 : decode cX11_book 45 = .ok (.isub, 1) := by decide +kernel
theorem dX11_book_46 : decode cX11_book 46 = .ok (.ireturn, 1) := by decide +kernel
theorem dX11_book_47 : decode cX11_book 47 = .ok (.aload_n 0, 1) := by decide +kernel
theorem dX11_book_48 : decode cX11_book 48 = .ok (.getfield 98, 3) := by decide +kernel
theorem dX11_book_51 : decode cX11_book 51 = .ok (.astore_n 2, 1) := by decide +kernel
theorem dX11_book_52 : decode cX11_book 52 = .ok (.aload_n 0, 1) := by decide +kernel
theorem dX11_book_53 : decode cX11_book 53 = .ok (.aload_n 0, 1) := by decide +kernel
theorem dX11_book_54 : decode cX11_book 54 = .ok (.getfield 102, 3) := by decide +kernel
theorem dX11_book_57 : decode cX11_book 57 = .ok (.putfield 98, 3) := by decide +kernel
theorem dX11_book_60 : decode cX11_book 60 = .ok (.aload_n 0, 1) := by decide +kernel
theorem dX11_book_61 : decode cX11_book 61 = .ok (.aload_n 2, 1) := by decide +kernel
theorem dX11_book_62 : decode cX11_book 62 = .ok (.putfield 102, 3) := by decide +kernel
theorem dX11_book_65 : decode cX11_book 65 = .ok (.aload_n 0, 1) := by decide +kernel
theorem dX11_book_66 : decode cX11_book 66 = .ok (.getfield 98, 3) := by decide +kernel
theorem dX11_book_69 : decode cX11_book 69 = .ok (.getfield 180, 3) := by decide +kernel
theorem dX11_book_72 : decode cX11_book 72 = .ok (.ireturn, 1) := by decide +kernel
theorem dX11_fault_0 : decode cX11_fault 0 = .ok (.aload_n 0, 1) := by decide +kernel
theorem dX11_fault_1 : decode cX11_fault 1 = .ok (.getfield 10, 3) := by decide +kernel
theorem dX11_fault_4 : decode cX11_fault 4 = .ok (.getfield 183, 3) := by decide +kernel
theorem dX11_fault_7 : decode cX11_fault 7 = .ok (.ireturn, 1) := by decide +kernel
theorem dX11_undo_0 : decode cX11_undo 0 = .ok (.aload_n 0, 1) := by decide +kernel
theorem dX11_undo_1 : decode cX11_undo 1 = .ok (.getfield 26, 3) := by decide +kernel
theorem dX11_undo_4 : decode cX11_undo 4 = .ok (.getfield 148, 3) := by decide +kernel
theorem dX11_undo_7 : decode cX11_undo 7 = .ok (.ifCond .ne 5, 3) := by decide +kernel
theorem dX11_undo_10 : decode cX11_undo 10 = .ok (.iconst (-1), 1) := by decide +kernel
theorem dX11_undo_11 : decode cX11_undo 11 = .ok (.ireturn, 1) := by decide +kernel
theorem dX11_undo_12 : decode cX11_undo 12 = .ok (.aload_n 0, 1) := by decide +kernel
theorem dX11_undo_13 : decode cX11_undo 13 = .ok (.getfield 26, 3) := by decide +kernel
theorem dX11_undo_16 : decode cX11_undo 16 = .ok (.aload_n 0, 1) := by decide +kernel
theorem dX11_undo_17 : decode cX11_undo 17 = .ok (.getfield 33, 3) := by decide +kernel
theorem dX11_undo_20 : decode cX11_undo 20 = .ok (.invokevirtual 186, 3) := by decide +kernel
theorem dX11_undo_23 : decode cX11_undo 23 = .ok (.aload_n 0, 1) := by decide +kernel
theorem dX11_undo_24 : decode cX11_undo 24 = .ok (.iconst 0, 1) := by decide +kernel
theorem dX11_undo_25 : decode cX11_undo 25 = .ok (.putfield 141, 3) := by decide +kernel
theorem dX11_undo_28 : decode cX11_undo 28 = .ok (.aload_n 0, 1) := by decide +kernel
theorem dX11_undo_29 : decode cX11_undo 29 = .ok (.getfield 26, 3) := by decide +kernel
theorem dX11_undo_32 : decode cX11_undo 32 = .ok (.getfield 148, 3) := by decide +kernel
theorem dX11_undo_35 : decode cX11_undo 35 = .ok (.ireturn, 1) := by decide +kernel
theorem dX11_told_0 : decode cX11_told 0 = .ok (.aload_n 0, 1) := by decide +kernel
theorem dX11_told_1 : decode cX11_told 1 = .ok (.iload_n 1, 1) := by decide +kernel
theorem dX11_told_2 : decode cX11_told 2 = .ok (.iconst 0, 1) := by decide +kernel
theorem dX11_told_3 : decode cX11_told 3 = .ok (.bipush 10, 2) := by decide +kernel
theorem dX11_told_5 : decode cX11_told 5 = .ok (.invokevirtual 189, 3) := by decide +kernel
theorem dX11_told_8 : decode cX11_told 8 = .ok (.iload_n 1, 1) := by decide +kernel
theorem dX11_told_9 : decode cX11_told 9 = .ok (.tableswitch 129 0 9 #[55, 63, 71, 79, 84, 92, 100, 108, 116, 124], 55) := by decide +kernel
theorem dX11_told_64 : decode cX11_told 64 = .ok (.aload_n 0, 1) := by decide +kernel
theorem dX11_told_65 : decode cX11_told 65 = .ok (.getfield 68, 3) := by decide +kernel
theorem dX11_told_68 : decode cX11_told 68 = .ok (.getfield 144, 3) := by decide +kernel
theorem dX11_told_71 : decode cX11_told 71 = .ok (.ireturn, 1) := by decide +kernel
theorem dX11_told_72 : decode cX11_told 72 = .ok (.aload_n 0, 1) := by decide +kernel
theorem dX11_told_73 : decode cX11_told 73 = .ok (.getfield 68, 3) := by decide +kernel
theorem dX11_told_76 : decode cX11_told 76 = .ok (.getfield 193, 3) := by decide +kernel
theorem dX11_told_79 : decode cX11_told 79 = .ok (.ireturn, 1) := by decide +kernel
theorem dX11_told_80 : decode cX11_told 80 = .ok (.aload_n 0, 1) := by decide +kernel
theorem dX11_told_81 : decode cX11_told 81 = .ok (.getfield 33, 3) := by decide +kernel
theorem dX11_told_84 : decode cX11_told 84 = .ok (.getfield 196, 3) := by decide +kernel
theorem dX11_told_87 : decode cX11_told 87 = .ok (.ireturn, 1) := by decide +kernel
theorem dX11_told_88 : decode cX11_told 88 = .ok (.aload_n 0, 1) := by decide +kernel
theorem dX11_told_89 : decode cX11_told 89 = .ok (.invokevirtual 199, 3) := by decide +kernel
theorem dX11_told_92 : decode cX11_told 92 = .ok (.ireturn, 1) := by decide +kernel
theorem dX11_told_93 : decode cX11_told 93 = .ok (.aload_n 0, 1) := by decide +kernel
theorem dX11_told_94 : decode cX11_told 94 = .ok (.getfield 33, 3) := by decide +kernel
theorem dX11_told_97 : decode cX11_told 97 = .ok (.invokevirtual 203, 3) := by decide +kernel
theorem dX11_told_100 : decode cX11_told 100 = .ok (.ireturn, 1) := by decide +kernel
theorem dX11_told_101 : decode cX11_told 101 = .ok (.aload_n 0, 1) := by decide +kernel
theorem dX11_told_102 : decode cX11_told 102 = .ok (.getfield 33, 3) := by decide +kernel
theorem dX11_told_105 : decode cX11_told 105 = .ok (.getfield 206, 3) := by decide +kernel
theorem dX11_told_108 : decode cX11_told 108 = .ok (.ireturn, 1) := by decide +kernel
theorem dX11_told_109 : decode cX11_told 109 = .ok (.aload_n 0, 1) := by decide +kernel
theorem dX11_told_110 : decode cX11_told 110 = .ok (.getfield 33, 3) := by decide +kernel
theorem dX11_told_113 : decode cX11_told 113 = .ok (.getfield 209, 3) := by decide +kernel
theorem dX11_told_116 : decode cX11_told 116 = .ok (.ireturn, 1) := by decide +kernel
theorem dX11_told_117 : decode cX11_told 117 = .ok (.aload_n 0, 1) := by decide +kernel
theorem dX11_told_118 : decode cX11_told 118 = .ok (.getfield 88, 3) := by decide +kernel
theorem dX11_told_121 : decode cX11_told 121 = .ok (.getfield 176, 3) := by decide +kernel
theorem dX11_told_124 : decode cX11_told 124 = .ok (.ireturn, 1) := by decide +kernel
theorem dX11_told_125 : decode cX11_told 125 = .ok (.aload_n 0, 1) := by decide +kernel
theorem dX11_told_126 : decode cX11_told 126 = .ok (.getfield 98, 3) := by decide +kernel
theorem dX11_told_129 : decode cX11_told 129 = .ok (.getfield 180, 3) := by decide +kernel
theorem dX11_told_132 : decode cX11_told 132 = .ok (.ireturn, 1) := by decide +kernel
theorem dX11_told_133 : decode cX11_told 133 = .ok (.aload_n 0, 1) := by decide +kernel
theorem dX11_told_134 : decode cX11_told 134 = .ok (.getfield 141, 3) := by decide +kernel
theorem dX11_told_137 : decode cX11_told 137 = .ok (.ireturn, 1) := by decide +kernel
theorem dX11_told_138 : decode cX11_told 138 = .ok (.aload_n 0, 1) := by decide +kernel
theorem dX11_told_139 : decode cX11_told 139 = .ok (.invokevirtual 212, 3) := by decide +kernel
theorem dX11_told_142 : decode cX11_told 142 = .ok (.ireturn, 1) := by decide +kernel
theorem dX11_pen_0 : decode cX11_pen 0 = .ok (.aload_n 0, 1) := by decide +kernel
theorem dX11_pen_1 : decode cX11_pen 1 = .ok (.iload_n 1, 1) := by decide +kernel
theorem dX11_pen_2 : decode cX11_pen 2 = .ok (.invokevirtual 215, 3) := by decide +kernel
theorem dX11_pen_5 : decode cX11_pen 5 = .ok (.aload_n 0, 1) := by decide +kernel
theorem dX11_pen_6 : decode cX11_pen 6 = .ok (.iload_n 2, 1) := by decide +kernel
theorem dX11_pen_7 : decode cX11_pen 7 = .ok (.iconst 0, 1) := by decide +kernel
theorem dX11_pen_8 : decode cX11_pen 8 = .ok (.bipush 6, 2) := by decide +kernel
theorem dX11_pen_10 : decode cX11_pen 10 = .ok (.invokevirtual 189, 3) := by decide +kernel
theorem dX11_pen_13 : decode cX11_pen 13 = .ok (.aload_n 0, 1) := by decide +kernel
theorem dX11_pen_14 : decode cX11_pen 14 = .ok (.getfield 33, 3) := by decide +kernel
theorem dX11_pen_17 : decode cX11_pen 17 = .ok (.getfield 218, 3) := by decide +kernel
theorem dX11_pen_20 : decode cX11_pen 20 = .ok (.iload_n 1, 1) := by decide +kernel
theorem dX11_pen_21 : decode cX11_pen 21 = .ok (.aaload, 1) := by decide +kernel
theorem dX11_pen_22 : decode cX11_pen 22 = .ok (.astore_n 3, 1) := by decide +kernel
theorem dX11_pen_23 : decode cX11_pen 23 = .ok (.iload_n 2, 1) := by decide +kernel
theorem dX11_pen_24 : decode cX11_pen 24 = .ok (.tableswitch 74 0 5 #[40, 45, 50, 55, 60, 65], 40) := by decide +kernel
theorem dX11_pen_64 : decode cX11_pen 64 = .ok (.aload_n 3, 1) := by decide +kernel
theorem dX11_pen_65 : decode cX11_pen 65 = .ok (.getfield 221, 3) := by decide +kernel
theorem dX11_pen_68 : decode cX11_pen 68 = .ok (.ireturn, 1) := by decide +kernel
theorem dX11_pen_69 : decode cX11_pen 69 = .ok (.aload_n 3, 1) := by decide +kernel
theorem dX11_pen_70 : decode cX11_pen 70 = .ok (.getfield 224, 3) := by decide +kernel
theorem dX11_pen_73 : decode cX11_pen 73 = .ok (.ireturn, 1) := by decide +kernel
theorem dX11_pen_74 : decode cX11_pen 74 = .ok (.aload_n 3, 1) := by decide +kernel
theorem dX11_pen_75 : decode cX11_pen 75 = .ok (.getfield 227, 3) := by decide +kernel
theorem dX11_pen_78 : decode cX11_pen 78 = .ok (.ireturn, 1) := by decide +kernel
theorem dX11_pen_79 : decode cX11_pen 79 = .ok (.aload_n 3, 1) := by decide +kernel
theorem dX11_pen_80 : decode cX11_pen 80 = .ok (.getfield 230, 3) := by decide +kernel
theorem dX11_pen_83 : decode cX11_pen 83 = .ok (.ireturn, 1) := by decide +kernel
theorem dX11_pen_84 : decode cX11_pen 84 = .ok (.aload_n 3, 1) := by decide +kernel
theorem dX11_pen_85 : decode cX11_pen 85 = .ok (.getfield 233, 3) := by decide +kernel
theorem dX11_pen_88 : decode cX11_pen 88 = .ok (.ireturn, 1) := by decide +kernel
theorem dX11_pen_89 : decode cX11_pen 89 = .ok (.aload_n 0, 1) := by decide +kernel
theorem dX11_pen_90 : decode cX11_pen 90 = .ok (.getfield 68, 3) := by decide +kernel
theorem dX11_pen_93 : decode cX11_pen 93 = .ok (.iload_n 1, 1) := by decide +kernel
theorem dX11_pen_94 : decode cX11_pen 94 = .ok (.invokevirtual 234, 3) := by decide +kernel
theorem dX11_pen_97 : decode cX11_pen 97 = .ok (.ireturn, 1) := by decide +kernel
theorem dX11_pen_98 : decode cX11_pen 98 = .ok (.aload_n 0, 1) := by decide +kernel
theorem dX11_pen_99 : decode cX11_pen 99 = .ok (.getfield 68, 3) := by decide +kernel
theorem dX11_pen_102 : decode cX11_pen 102 = .ok (.iload_n 1, 1) := by decide +kernel
theorem dX11_pen_103 : decode cX11_pen 103 = .ok (.invokevirtual 238, 3) := by decide +kernel
theorem dX11_pen_106 : decode cX11_pen 106 = .ok (.ireturn, 1) := by decide +kernel
theorem dX11_wire_0 : decode cX11_wire 0 = .ok (.iload_n 1, 1) := by decide +kernel
theorem dX11_wire_1 : decode cX11_wire 1 = .ok (.ifCond .lt 14, 3) := by decide +kernel
theorem dX11_wire_4 : decode cX11_wire 4 = .ok (.iload_n 1, 1) := by decide +kernel
theorem dX11_wire_5 : decode cX11_wire 5 = .ok (.aload_n 0, 1) := by decide +kernel
theorem dX11_wire_6 : decode cX11_wire 6 = .ok (.getfield 68, 3) := by decide +kernel
theorem dX11_wire_9 : decode cX11_wire 9 = .ok (.getfield 193, 3) := by decide +kernel
theorem dX11_wire_12 : decode cX11_wire 12 = .ok (.if_icmp .lt 7, 3) := by decide +kernel
theorem dX11_wire_15 : decode cX11_wire 15 = .ok (.aload_n 0, 1) := by decide +kernel
theorem dX11_wire_16 : decode cX11_wire 16 = .ok (.invokevirtual 241, 3) := by decide +kernel
theorem dX11_wire_19 : decode cX11_wire 19 = .ok (.aload_n 0, 1) := by decide +kernel
theorem dX11_wire_20 : decode cX11_wire 20 = .ok (.iload_n 2, 1) := by decide +kernel
theorem dX11_wire_21 : decode cX11_wire 21 = .ok (.iconst 0, 1) := by decide +kernel
theorem dX11_wire_22 : decode cX11_wire 22 = .ok (.iconst 1, 1) := by decide +kernel
theorem dX11_wire_23 : decode cX11_wire 23 = .ok (.invokevirtual 189, 3) := by decide +kernel
theorem dX11_wire_26 : decode cX11_wire 26 = .ok (.iload_n 2, 1) := by decide +kernel
theorem dX11_wire_27 : decode cX11_wire 27 = .ok (.ifCond .ne 15, 3) := by decide +kernel
theorem dX11_wire_30 : decode cX11_wire 30 = .ok (.aload_n 0, 1) := by decide +kernel
theorem dX11_wire_31 : decode cX11_wire 31 = .ok (.getfield 68, 3) := by decide +kernel
theorem dX11_wire_34 : decode cX11_wire 34 = .ok (.getfield 244, 3) := by decide +kernel
theorem dX11_wire_37 : decode cX11_wire 37 = .ok (.iload_n 1, 1) := by decide +kernel
theorem dX11_wire_38 : decode cX11_wire 38 = .ok (.iaload, 1) := by decide +kernel
theorem dX11_wire_39 : decode cX11_wire 39 = .ok (.goto 12, 3) := by decide +kernel
theorem dX11_wire_42 : decode cX11_wire 42 = .ok (.aload_n 0, 1) := by decide +kernel
theorem dX11_wire_43 : decode cX11_wire 43 = .ok (.getfield 68, 3) := by decide +kernel
theorem dX11_wire_46 : decode cX11_wire 46 = .ok (.getfield 247, 3) := by decide +kernel
theorem dX11_wire_49 : decode cX11_wire 49 = .ok (.iload_n 1, 1) := by decide +kernel
theorem dX11_wire_50 : decode cX11_wire 50 = .ok (.iaload, 1) := by decide +kernel
theorem dX11_wire_51 : decode cX11_wire 51 = .ok (.ireturn, 1) := by decide +kernel
theorem dX11_record_0 : decode cX11_record 0 = .ok (.aload_n 0, 1) := by decide +kernel
theorem dX11_record_1 : decode cX11_record 1 = .ok (.iload_n 1, 1) := by decide +kernel
theorem dX11_record_2 : decode cX11_record 2 = .ok (.invokevirtual 215, 3) := by decide +kernel
theorem dX11_record_5 : decode cX11_record 5 = .ok (.aload_n 0, 1) := by decide +kernel
theorem dX11_record_6 : decode cX11_record 6 = .ok (.iload_n 1, 1) := by decide +kernel
theorem dX11_record_7 : decode cX11_record 7 = .ok (.iload_n 2, 1) := by decide +kernel
theorem dX11_record_8 : decode cX11_record 8 = .ok (.invokevirtual 250, 3) := by decide +kernel
theorem dX11_record_11 : decode cX11_record 11 = .ok (.aload_n 0, 1) := by decide +kernel
theorem dX11_record_12 : decode cX11_record 12 = .ok (.getfield 33, 3) := by decide +kernel
theorem dX11_record_15 : decode cX11_record 15 = .ok (.getfield 218, 3) := by decide +kernel
theorem dX11_record_18 : decode cX11_record 18 = .ok (.iload_n 1, 1) := by decide +kernel
theorem dX11_record_19 : decode cX11_record 19 = .ok (.aaload, 1) := by decide +kernel
theorem dX11_record_20 : decode cX11_record 20 = .ok (.iload_n 2, 1) := by decide +kernel
theorem dX11_record_21 : decode cX11_record 21 = .ok (.invokevirtual 253, 3) := by decide +kernel
theorem dX11_record_24 : decode cX11_record 24 = .ok (.ireturn, 1) := by decide +kernel
theorem dX11_out_0 : decode cX11_out 0 = .ok (.aload_n 0, 1) := by decide +kernel
theorem dX11_out_1 : decode cX11_out 1 = .ok (.iload_n 1, 1) := by decide +kernel
theorem dX11_out_2 : decode cX11_out 2 = .ok (.invokevirtual 215, 3) := by decide +kernel
theorem dX11_out_5 : decode cX11_out 5 = .ok (.aload_n 0, 1) := by decide +kernel
theorem dX11_out_6 : decode cX11_out 6 = .ok (.getfield 33, 3) := by decide +kernel
theorem dX11_out_9 : decode cX11_out 9 = .ok (.getfield 218, 3) := by decide +kernel
theorem dX11_out_12 : decode cX11_out 12 = .ok (.iload_n 1, 1) := by decide +kernel
theorem dX11_out_13 : decode cX11_out 13 = .ok (.aaload, 1) := by decide +kernel
theorem dX11_out_14 : decode cX11_out 14 = .ok (.invokevirtual 256, 3) := by decide +kernel
theorem dX11_out_17 : decode cX11_out 17 = .ok (.ifCond .eq 7, 3) := by decide +kernel
theorem dX11_out_20 : decode cX11_out 20 = .ok (.aload_n 0, 1) := by decide +kernel
theorem dX11_out_21 : decode cX11_out 21 = .ok (.invokevirtual 259, 3) := by decide +kernel
theorem dX11_out_24 : decode cX11_out 24 = .ok (.aload_n 0, 1) := by decide +kernel
theorem dX11_out_25 : decode cX11_out 25 = .ok (.getfield 33, 3) := by decide +kernel
theorem dX11_out_28 : decode cX11_out 28 = .ok (.getfield 218, 3) := by decide +kernel
theorem dX11_out_31 : decode cX11_out 31 = .ok (.iload_n 1, 1) := by decide +kernel
theorem dX11_out_32 : decode cX11_out 32 = .ok (.aaload, 1) := by decide +kernel
theorem dX11_out_33 : decode cX11_out 33 = .ok (.iload_n 2, 1) := by decide +kernel
theorem dX11_out_34 : decode cX11_out 34 = .ok (.invokevirtual 262, 3) := by decide +kernel
theorem dX11_out_37 : decode cX11_out 37 = .ok (.ireturn, 1) := by decide +kernel
theorem dX11_level_0 : decode cX11_level 0 = .ok (.aload_n 0, 1) := by decide +kernel
theorem dX11_level_1 : decode cX11_level 1 = .ok (.iload_n 1, 1) := by decide +kernel
theorem dX11_level_2 : decode cX11_level 2 = .ok (.invokevirtual 215, 3) := by decide +kernel
theorem dX11_level_5 : decode cX11_level 5 = .ok (.aload_n 0, 1) := by decide +kernel
theorem dX11_level_6 : decode cX11_level 6 = .ok (.getfield 78, 3) := by decide +kernel
theorem dX11_level_9 : decode cX11_level 9 = .ok (.aload_n 0, 1) := by decide +kernel
theorem dX11_level_10 : decode cX11_level 10 = .ok (.getfield 33, 3) := by decide +kernel
theorem dX11_level_13 : decode cX11_level 13 = .ok (.iload_n 1, 1) := by decide +kernel
theorem dX11_level_14 : decode cX11_level 14 = .ok (.iload_n 2, 1) := by decide +kernel
theorem dX11_level_15 : decode cX11_level 15 = .ok (.invokevirtual 265, 3) := by decide +kernel
theorem dX11_level_18 : decode cX11_level 18 = .ok (.ireturn, 1) := by decide +kernel
theorem dX11_would_0 : decode cX11_would 0 = .ok (.aload_n 0, 1) := by decide +kernel
theorem dX11_would_1 : decode cX11_would 1 = .ok (.iload_n 3, 1) := by decide +kernel
theorem dX11_would_2 : decode cX11_would 2 = .ok (.iconst 0, 1) := by decide +kernel
theorem dX11_would_3 : decode cX11_would 3 = .ok (.ldc_w 269, 3) := by decide +kernel
theorem dX11_would_6 : decode cX11_would 6 = .ok (.invokevirtual 189, 3) := by decide +kernel
theorem dX11_would_9 : decode cX11_would 9 = .ok (.aload_n 0, 1) := by decide +kernel
theorem dX11_would_10 : decode cX11_would 10 = .ok (.iload 4, 2) := by decide +kernel
theorem dX11_would_12 : decode cX11_would 12 = .ok (.iconst 0, 1) := by decide +kernel
theorem dX11_would_13 : decode cX11_would 13 = .ok (.bipush 24, 2) := by decide +kernel
theorem dX11_would_15 : decode cX11_would 15 = .ok (.invokevirtual 189, 3) := by decide +kernel
theorem dX11_would_18 : decode cX11_would 18 = .ok (.aload_n 0, 1) := by decide +kernel
theorem dX11_would_19 : decode cX11_would 19 = .ok (.iload 5, 2) := by decide +kernel
theorem dX11_would_21 : decode cX11_would 21 = .ok (.iconst 0, 1) := by decide +kernel
theorem dX11_would_22 : decode cX11_would 22 = .ok (.sipush 900, 3) := by decide +kernel
theorem dX11_would_25 : decode cX11_would 25 = .ok (.invokevirtual 189, 3) := by decide +kernel
theorem dX11_would_28 : decode cX11_would 28 = .ok (.aload_n 0, 1) := by decide +kernel
theorem dX11_would_29 : decode cX11_would 29 = .ok (.iload 6, 2) := by decide +kernel
theorem dX11_would_31 : decode cX11_would 31 = .ok (.iconst 0, 1) := by decide +kernel
theorem dX11_would_32 : decode cX11_would 32 = .ok (.bipush 7, 2) := by decide +kernel
theorem dX11_would_34 : decode cX11_would 34 = .ok (.invokevirtual 189, 3) := by decide +kernel
theorem dX11_would_37 : decode cX11_would 37 = .ok (.aload_n 0, 1) := by decide +kernel
theorem dX11_would_38 : decode cX11_would 38 = .ok (.iload 7, 2) := by decide +kernel
theorem dX11_would_40 : decode cX11_would 40 = .ok (.iconst 0, 1) := by decide +kernel
theorem dX11_would_41 : decode cX11_would 41 = .ok (.bipush 99, 2) := by decide +kernel
theorem dX11_would_43 : decode cX11_would 43 = .ok (.invokevirtual 189, 3) := by decide +kernel
theorem dX11_would_46 : decode cX11_would 46 = .ok (.aload_n 0, 1) := by decide +kernel
theorem dX11_would_47 : decode cX11_would 47 = .ok (.iload 8, 2) := by decide +kernel
theorem dX11_would_49 : decode cX11_would 49 = .ok (.iconst 0, 1) := by decide +kernel
theorem dX11_would_50 : decode cX11_would 50 = .ok (.bipush 99, 2) := by decide +kernel
theorem dX11_would_52 : decode cX11_would 52 = .ok (.invokevirtual 189, 3) := by decide +kernel
theorem dX11_would_55 : decode cX11_would 55 = .ok (.aload_n 0, 1) := by decide +kernel
theorem dX11_would_56 : decode cX11_would 56 = .ok (.getfield 78, 3) := by decide +kernel
theorem dX11_would_59 : decode cX11_would 59 = .ok (.getfield 270, 3) := by decide +kernel
theorem dX11_would_62 : decode cX11_would 62 = .ok (.iconst 0, 1) := by decide +kernel
theorem dX11_would_63 : decode cX11_would 63 = .ok (.iload_n 1, 1) := by decide +kernel
theorem dX11_would_64 : decode cX11_would 64 = .ok (.iastore, 1) := by decide +kernel
theorem dX11_would_65 : decode cX11_would 65 = .ok (.aload_n 0, 1) := by decide +kernel
theorem dX11_would_66 : decode cX11_would 66 = .ok (.getfield 78, 3) := by decide +kernel
theorem dX11_would_69 : decode cX11_would 69 = .ok (.getfield 270, 3) := by decide +kernel
theorem dX11_would_72 : decode cX11_would 72 = .ok (.iconst 1, 1) := by decide +kernel
theorem dX11_would_73 : decode cX11_would 73 = .ok (.iload_n 2, 1) := by decide +kernel
theorem dX11_would_74 : decode cX11_would 74 = .ok (.iastore, 1) := by decide +kernel
theorem dX11_would_75 : decode cX11_would 75 = .ok (.aload_n 0, 1) := by decide +kernel
theorem dX11_would_76 : decode cX11_would 76 = .ok (.getfield 78, 3) := by decide +kernel
theorem dX11_would_79 : decode cX11_would 79 = .ok (.getfield 270, 3) := by decide +kernel
theorem dX11_would_82 : decode cX11_would 82 = .ok (.iconst 2, 1) := by decide +kernel
theorem dX11_would_83 : decode cX11_would 83 = .ok (.iload_n 3, 1) := by decide +kernel
theorem dX11_would_84 : decode cX11_would 84 = .ok (.iastore, 1) := by decide +kernel
theorem dX11_would_85 : decode cX11_would 85 = .ok (.aload_n 0, 1) := by decide +kernel
theorem dX11_would_86 : decode cX11_would 86 = .ok (.getfield 78, 3) := by decide +kernel
theorem dX11_would_89 : decode cX11_would 89 = .ok (.getfield 270, 3) := by decide +kernel
theorem dX11_would_92 : decode cX11_would 92 = .ok (.iconst 3, 1) := by decide +kernel
theorem dX11_would_93 : decode cX11_would 93 = .ok (.iload 4, 2) := by decide +kernel
theorem dX11_would_95 : decode cX11_would 95 = .ok (.iastore, 1) := by decide +kernel
theorem dX11_would_96 : decode cX11_would 96 = .ok (.aload_n 0, 1) := by decide +kernel
theorem dX11_would_97 : decode cX11_would 97 = .ok (.getfield 78, 3) := by decide +kernel
theorem dX11_would_100 : decode cX11_would 100 = .ok (.getfield 270, 3) := by decide +kernel
theorem dX11_would_103 : decode cX11_would 103 = .ok (.iconst 4, 1) := by decide +kernel
theorem dX11_would_104 : decode cX11_would 104 = .ok (.iload 5, 2) := by decide +kernel
theorem dX11_would_106 : decode cX11_would 106 = .ok (.iastore, 1) := by decide +kernel
theorem dX11_would_107 : decode cX11_would 107 = .ok (.aload_n 0, 1) := by decide +kernel
theorem dX11_would_108 : decode cX11_would 108 = .ok (.getfield 78, 3) := by decide +kernel
theorem dX11_would_111 : decode cX11_would 111 = .ok (.getfield 270, 3) := by decide +kernel
theorem dX11_would_114 : decode cX11_would 114 = .ok (.iconst 5, 1) := by decide +kernel
theorem dX11_would_115 : decode cX11_would 115 = .ok (.iload 6, 2) := by decide +kernel
theorem dX11_would_117 : decode cX11_would 117 = .ok (.iastore, 1) := by decide +kernel
theorem dX11_would_118 : decode cX11_would 118 = .ok (.aload_n 0, 1) := by decide +kernel
theorem dX11_would_119 : decode cX11_would 119 = .ok (.getfield 78, 3) := by decide +kernel
theorem dX11_would_122 : decode cX11_would 122 = .ok (.getfield 270, 3) := by decide +kernel
theorem dX11_would_125 : decode cX11_would 125 = .ok (.bipush 6, 2) := by decide +kernel
theorem dX11_would_127 : decode cX11_would 127 = .ok (.iload 7, 2) := by decide +kernel
theorem dX11_would_129 : decode cX11_would 129 = .ok (.iastore, 1) := by decide +kernel
theorem dX11_would_130 : decode cX11_would 130 = .ok (.aload_n 0, 1) := by decide +kernel
theorem dX11_would_131 : decode cX11_would 131 = .ok (.getfield 78, 3) := by decide +kernel
theorem dX11_would_134 : decode cX11_would 134 = .ok (.getfield 270, 3) := by decide +kernel
theorem dX11_would_137 : decode cX11_would 137 = .ok (.bipush 7, 2) := by decide +kernel
theorem dX11_would_139 : decode cX11_would 139 = .ok (.iload 8, 2) := by decide +kernel
theorem dX11_would_141 : decode cX11_would 141 = .ok (.iastore, 1) := by decide +kernel
theorem dX11_would_142 : decode cX11_would 142 = .ok (.aload_n 0, 1) := by decide +kernel
theorem dX11_would_143 : decode cX11_would 143 = .ok (.getfield 78, 3) := by decide +kernel
theorem dX11_would_146 : decode cX11_would 146 = .ok (.invokevirtual 273, 3) := by decide +kernel
theorem dX11_would_149 : decode cX11_would 149 = .ok (.ireturn, 1) := by decide +kernel
theorem dX11_total_0 : decode cX11_total 0 = .ok (.aload_n 0, 1) := by decide +kernel
theorem dX11_total_1 : decode cX11_total 1 = .ok (.iload_n 1, 1) := by decide +kernel
theorem dX11_total_2 : decode cX11_total 2 = .ok (.invokevirtual 215, 3) := by decide +kernel
theorem dX11_total_5 : decode cX11_total 5 = .ok (.aload_n 0, 1) := by decide +kernel
theorem dX11_total_6 : decode cX11_total 6 = .ok (.getfield 33, 3) := by decide +kernel
theorem dX11_total_9 : decode cX11_total 9 = .ok (.getfield 218, 3) := by decide +kernel
theorem dX11_total_12 : decode cX11_total 12 = .ok (.iload_n 1, 1) := by decide +kernel
theorem dX11_total_13 : decode cX11_total 13 = .ok (.aaload, 1) := by decide +kernel
theorem dX11_total_14 : decode cX11_total 14 = .ok (.astore_n 2, 1) := by decide +kernel
theorem dX11_total_15 : decode cX11_total 15 = .ok (.lconst 0, 1) := by decide +kernel
theorem dX11_total_16 : decode cX11_total 16 = .ok (.lstore_n 3, 1) := by decide +kernel
theorem dX11_total_17 : decode cX11_total 17 = .ok (.iconst 0, 1) := by decide +kernel
theorem dX11_total_18 : decode cX11_total 18 = .ok (.istore 5, 2) := by decide +kernel
theorem dX11_total_20 : decode cX11_total 20 = .ok (.iload 5, 2) := by decide +kernel
theorem dX11_total_22 : decode cX11_total 22 = .ok (.aload_n 2, 1) := by decide +kernel
theorem dX11_total_23 : decode cX11_total 23 = .ok (.getfield 233, 3) := by decide +kernel
theorem dX11_total_26 : decode cX11_total 26 = .ok (.if_icmp .ge 31, 3) := by decide +kernel
theorem dX11_total_29 : decode cX11_total 29 = .ok (.lload_n 3, 1) := by decide +kernel
theorem dX11_total_30 : decode cX11_total 30 = .ok (.aload_n 2, 1) := by decide +kernel
theorem dX11_total_31 : decode cX11_total 31 = .ok (.iload 5, 2) := by decide +kernel
theorem dX11_total_33 : decode cX11_total 33 = .ok (.invokevirtual 253, 3) := by decide +kernel
theorem dX11_total_36 : decode cX11_total 36 = .ok (.i2l, 1) := by decide +kernel
theorem dX11_total_37 : decode cX11_total 37 = .ok (.ladd, 1) := by decide +kernel
theorem dX11_total_38 : decode cX11_total 38 = .ok (.lstore_n 3, 1) := by decide +kernel
theorem dX11_total_39 : decode cX11_total 39 = .ok (.lload_n 3, 1) := by decide +kernel
theorem dX11_total_40 : decode cX11_total 40 = .ok (.lload_n 3, 1) := by decide +kernel
theorem dX11_total_41 : decode cX11_total 41 = .ok (.l2i, 1) := by decide +kernel
theorem dX11_total_42 : decode cX11_total 42 = .ok (.i2l, 1) := by decide +kernel
theorem dX11_total_43 : decode cX11_total 43 = .ok (.lcmp, 1) := by decide +kernel
theorem dX11_total_44 : decode cX11_total 44 = .ok (.ifCond .eq 7, 3) := by decide +kernel
theorem dX11_total_47 : decode cX11_total 47 = .ok (.aload_n 0, 1) := by decide +kernel
theorem dX11_total_48 : decode cX11_total 48 = .ok (.invokevirtual 259, 3) := by decide +kernel
theorem dX11_total_51 : decode cX11_total 51 = .ok (.iinc 5 1, 3) := by decide +kernel
theorem dX11_total_54 : decode cX11_total 54 = .ok (.goto (-34), 3) := by decide +kernel
theorem dX11_total_57 : decode cX11_total 57 = .ok (.lload_n 3, 1) := by decide +kernel
theorem dX11_total_58 : decode cX11_total 58 = .ok (.l2i, 1) := by decide +kernel
theorem dX11_total_59 : decode cX11_total 59 = .ok (.ireturn, 1) := by decide +kernel
theorem dX11_strange_0 : decode cX11_strange 0 = .ok (.aload_n 0, 1) := by decide +kernel
theorem dX11_strange_1 : decode cX11_strange 1 = .ok (.iload_n 1, 1) := by decide +kernel
theorem dX11_strange_2 : decode cX11_strange 2 = .ok (.invokevirtual 215, 3) := by decide +kernel
theorem dX11_strange_5 : decode cX11_strange 5 = .ok (.aload_n 0, 1) := by decide +kernel
theorem dX11_strange_6 : decode cX11_strange 6 = .ok (.iload_n 2, 1) := by decide +kernel
theorem dX11_strange_7 : decode cX11_strange 7 = .ok (.iconst 0, 1) := by decide +kernel
theorem dX11_strange_8 : decode cX11_strange 8 = .ok (.iconst 1, 1) := by decide +kernel
theorem dX11_strange_9 : decode cX11_strange 9 = .ok (.invokevirtual 189, 3) := by decide +kernel
theorem dX11_strange_12 : decode cX11_strange 12 = .ok (.aload_n 0, 1) := by decide +kernel
theorem dX11_strange_13 : decode cX11_strange 13 = .ok (.getfield 33, 3) := by decide +kernel
theorem dX11_strange_16 : decode cX11_strange 16 = .ok (.getfield 218, 3) := by decide +kernel
theorem dX11_strange_19 : decode cX11_strange 19 = .ok (.iload_n 1, 1) := by decide +kernel
theorem dX11_strange_20 : decode cX11_strange 20 = .ok (.aaload, 1) := by decide +kernel
theorem dX11_strange_21 : decode cX11_strange 21 = .ok (.iload_n 2, 1) := by decide +kernel
theorem dX11_strange_22 : decode cX11_strange 22 = .ok (.iconst 1, 1) := by decide +kernel
theorem dX11_strange_23 : decode cX11_strange 23 = .ok (.if_icmp .ne 7, 3) := by decide +kernel
theorem dX11_strange_26 : decode cX11_strange 26 = .ok (.iconst 1, 1) := by decide +kernel
theorem dX11_strange_27 : decode cX11_strange 27 = .ok (.goto 4, 3) := by decide +kernel
theorem dX11_strange_30 : decode cX11_strange 30 = .ok (.iconst 0, 1) := by decide +kernel
theorem dX11_strange_31 : decode cX11_strange 31 = .ok (.invokevirtual 276, 3) := by decide +kernel
theorem dX11_strange_34 : decode cX11_strange 34 = .ok (.ireturn, 1) := by decide +kernel
theorem dX11_extreme_0 : decode cX11_extreme 0 = .ok (.aload_n 0, 1) := by decide +kernel
theorem dX11_extreme_1 : decode cX11_extreme 1 = .ok (.iload_n 1, 1) := by decide +kernel
theorem dX11_extreme_2 : decode cX11_extreme 2 = .ok (.invokevirtual 215, 3) := by decide +kernel
theorem dX11_extreme_5 : decode cX11_extreme 5 = .ok (.aload_n 0, 1) := by decide +kernel
theorem dX11_extreme_6 : decode cX11_extreme 6 = .ok (.iload_n 2, 1) := by decide +kernel
theorem dX11_extreme_7 : decode cX11_extreme 7 = .ok (.iconst 0, 1) := by decide +kernel
theorem dX11_extreme_8 : decode cX11_extreme 8 = .ok (.iconst 1, 1) := by decide +kernel
theorem dX11_extreme_9 : decode cX11_extreme 9 = .ok (.invokevirtual 189, 3) := by decide +kernel
theorem dX11_extreme_12 : decode cX11_extreme 12 = .ok (.aload_n 0, 1) := by decide +kernel
theorem dX11_extreme_13 : decode cX11_extreme 13 = .ok (.getfield 33, 3) := by decide +kernel
theorem dX11_extreme_16 : decode cX11_extreme 16 = .ok (.getfield 218, 3) := by decide +kernel
theorem dX11_extreme_19 : decode cX11_extreme 19 = .ok (.iload_n 1, 1) := by decide +kernel
theorem dX11_extreme_20 : decode cX11_extreme 20 = .ok (.aaload, 1) := by decide +kernel
theorem dX11_extreme_21 : decode cX11_extreme 21 = .ok (.iload_n 2, 1) := by decide +kernel
theorem dX11_extreme_22 : decode cX11_extreme 22 = .ok (.iconst 1, 1) := by decide +kernel
theorem dX11_extreme_23 : decode cX11_extreme 23 = .ok (.if_icmp .ne 7, 3) := by decide +kernel
theorem dX11_extreme_26 : decode cX11_extreme 26 = .ok (.iconst 1, 1) := by decide +kernel
theorem dX11_extreme_27 : decode cX11_extreme 27 = .ok (.goto 4, 3) := by decide +kernel
theorem dX11_extreme_30 : decode cX11_extreme 30 = .ok (.iconst 0, 1) := by decide +kernel
theorem dX11_extreme_31 : decode cX11_extreme 31 = .ok (.invokevirtual 280, 3) := by decide +kernel
theorem dX11_extreme_34 : decode cX11_extreme 34 = .ok (.ireturn, 1) := by decide +kernel
theorem dX11_through_0 : decode cX11_through 0 = .ok (.aload_n 0, 1) := by decide +kernel
theorem dX11_through_1 : decode cX11_through 1 = .ok (.invokevirtual 283, 3) := by decide +kernel
theorem dX11_through_4 : decode cX11_through 4 = .ok (.ifCond .eq 7, 3) := by decide +kernel
theorem dX11_through_7 : decode cX11_through 7 = .ok (.aload_n 0, 1) := by decide +kernel
theorem dX11_through_8 : decode cX11_through 8 = .ok (.invokevirtual 259, 3) := by decide +kernel
theorem dX11_through_11 : decode cX11_through 11 = .ok (.aload_n 0, 1) := by decide +kernel
theorem dX11_through_12 : decode cX11_through 12 = .ok (.iload_n 1, 1) := by decide +kernel
theorem dX11_through_13 : decode cX11_through 13 = .ok (.invokevirtual 286, 3) := by decide +kernel
theorem dX11_through_16 : decode cX11_through 16 = .ok (.ireturn, 1) := by decide +kernel
theorem dX11_kept_0 : decode cX11_kept 0 = .ok (.aload_n 0, 1) := by decide +kernel
theorem dX11_kept_1 : decode cX11_kept 1 = .ok (.iload_n 2, 1) := by decide +kernel
theorem dX11_kept_2 : decode cX11_kept 2 = .ok (.iconst 0, 1) := by decide +kernel
theorem dX11_kept_3 : decode cX11_kept 3 = .ok (.sipush 1000, 3) := by decide +kernel
theorem dX11_kept_6 : decode cX11_kept 6 = .ok (.invokevirtual 189, 3) := by decide +kernel
theorem dX11_kept_9 : decode cX11_kept 9 = .ok (.aload_n 0, 1) := by decide +kernel
theorem dX11_kept_10 : decode cX11_kept 10 = .ok (.invokevirtual 283, 3) := by decide +kernel
theorem dX11_kept_13 : decode cX11_kept 13 = .ok (.ifCond .eq 5, 3) := by decide +kernel
theorem dX11_kept_16 : decode cX11_kept 16 = .ok (.iconst 0, 1) := by decide +kernel
theorem dX11_kept_17 : decode cX11_kept 17 = .ok (.ireturn, 1) := by decide +kernel
theorem dX11_kept_18 : decode cX11_kept 18 = .ok (.iconst 0, 1) := by decide +kernel
theorem dX11_kept_19 : decode cX11_kept 19 = .ok (.istore_n 3, 1) := by decide +kernel
theorem dX11_kept_20 : decode cX11_kept 20 = .ok (.iconst 0, 1) := by decide +kernel
theorem dX11_kept_21 : decode cX11_kept 21 = .ok (.istore 4, 2) := by decide +kernel
theorem dX11_kept_23 : decode cX11_kept 23 = .ok (.iload 4, 2) := by decide +kernel
theorem dX11_kept_25 : decode cX11_kept 25 = .ok (.iload_n 2, 1) := by decide +kernel
theorem dX11_kept_26 : decode cX11_kept 26 = .ok (.if_icmp .ge 27, 3) := by decide +kernel
theorem dX11_kept_29 : decode cX11_kept 29 = .ok (.aload_n 0, 1) := by decide +kernel
theorem dX11_kept_30 : decode cX11_kept 30 = .ok (.iload_n 1, 1) := by decide +kernel
theorem dX11_kept_31 : decode cX11_kept 31 = .ok (.iload 4, 2) := by decide +kernel
theorem dX11_kept_33 : decode cX11_kept 33 = .ok (.iadd, 1) := by decide +kernel
theorem dX11_kept_34 : decode cX11_kept 34 = .ok (.invokevirtual 286, 3) := by decide +kernel
theorem dX11_kept_37 : decode cX11_kept 37 = .ok (.iload_n 1, 1) := by decide +kernel
theorem dX11_kept_38 : decode cX11_kept 38 = .ok (.iload 4, 2) := by decide +kernel
theorem dX11_kept_40 : decode cX11_kept 40 = .ok (.iadd, 1) := by decide +kernel
theorem dX11_kept_41 : decode cX11_kept 41 = .ok (.if_icmp .ne 6, 3) := by decide +kernel
theorem dX11_kept_44 : decode cX11_kept 44 = .ok (.iinc 3 1, 3) := by decide +kernel
theorem dX11_kept_47 : decode cX11_kept 47 = .ok (.iinc 4 1, 3) := by decide +kernel
theorem dX11_kept_50 : decode cX11_kept 50 = .ok (.goto (-27), 3) := by decide +kernel
theorem dX11_kept_53 : decode cX11_kept 53 = .ok (.iload_n 3, 1) := by decide +kernel
theorem dX11_kept_54 : decode cX11_kept 54 = .ok (.ireturn, 1) := by decide +kernel
theorem dX11_gives_0 : decode cX11_gives 0 = .ok (.aload_n 0, 1) := by decide +kernel
theorem dX11_gives_1 : decode cX11_gives 1 = .ok (.iload_n 3, 1) := by decide +kernel
theorem dX11_gives_2 : decode cX11_gives 2 = .ok (.iconst 0, 1) := by decide +kernel
theorem dX11_gives_3 : decode cX11_gives 3 = .ok (.sipush 1000, 3) := by decide +kernel
theorem dX11_gives_6 : decode cX11_gives 6 = .ok (.invokevirtual 189, 3) := by decide +kernel
theorem dX11_gives_9 : decode cX11_gives 9 = .ok (.aload_n 0, 1) := by decide +kernel
theorem dX11_gives_10 : decode cX11_gives 10 = .ok (.invokevirtual 283, 3) := by decide +kernel
theorem dX11_gives_13 : decode cX11_gives 13 = .ok (.ifCond .eq 5, 3) := by decide +kernel
theorem dX11_gives_16 : decode cX11_gives 16 = .ok (.iconst (-1), 1) := by decide +kernel
theorem dX11_gives_17 : decode cX11_gives 17 = .ok (.ireturn, 1) := by decide +kernel
theorem dX11_gives_18 : decode cX11_gives 18 = .ok (.iconst 0, 1) := by decide +kernel
theorem dX11_gives_19 : decode cX11_gives 19 = .ok (.istore 4, 2) := by decide +kernel
theorem dX11_gives_21 : decode cX11_gives 21 = .ok (.iload 4, 2) := by decide +kernel
theorem dX11_gives_23 : decode cX11_gives 23 = .ok (.iload_n 3, 1) := by decide +kernel
theorem dX11_gives_24 : decode cX11_gives 24 = .ok (.if_icmp .ge 24, 3) := by decide +kernel
theorem dX11_gives_27 : decode cX11_gives 27 = .ok (.aload_n 0, 1) := by decide +kernel
theorem dX11_gives_28 : decode cX11_gives 28 = .ok (.iload_n 2, 1) := by decide +kernel
theorem dX11_gives_29 : decode cX11_gives 29 = .ok (.iload 4, 2) := by decide +kernel
theorem dX11_gives_31 : decode cX11_gives 31 = .ok (.iadd, 1) := by decide +kernel
theorem dX11_gives_32 : decode cX11_gives 32 = .ok (.invokevirtual 286, 3) := by decide +kernel
theorem dX11_gives_35 : decode cX11_gives 35 = .ok (.iload_n 1, 1) := by decide +kernel
theorem dX11_gives_36 : decode cX11_gives 36 = .ok (.if_icmp .ne 6, 3) := by decide +kernel
theorem dX11_gives_39 : decode cX11_gives 39 = .ok (.iload 4, 2) := by decide +kernel
theorem dX11_gives_41 : decode cX11_gives 41 = .ok (.ireturn, 1) := by decide +kernel
theorem dX11_gives_42 : decode cX11_gives 42 = .ok (.iinc 4 1, 3) := by decide +kernel
theorem dX11_gives_45 : decode cX11_gives 45 = .ok (.goto (-24), 3) := by decide +kernel
theorem dX11_gives_48 : decode cX11_gives 48 = .ok (.iconst (-1), 1) := by decide +kernel
theorem dX11_gives_49 : decode cX11_gives 49 = .ok (.ireturn, 1) := by decide +kernel
theorem dX11_worst_0 : decode cX11_worst 0 = .ok (.aload_n 0, 1) := by decide +kernel
theorem dX11_worst_1 : decode cX11_worst 1 = .ok (.iload_n 2, 1) := by decide +kernel
theorem dX11_worst_2 : decode cX11_worst 2 = .ok (.iconst 0, 1) := by decide +kernel
theorem dX11_worst_3 : decode cX11_worst 3 = .ok (.sipush 1000, 3) := by decide +kernel
theorem dX11_worst_6 : decode cX11_worst 6 = .ok (.invokevirtual 189, 3) := by decide +kernel
theorem dX11_worst_9 : decode cX11_worst 9 = .ok (.aload_n 0, 1) := by decide +kernel
theorem dX11_worst_10 : decode cX11_worst 10 = .ok (.iload_n 3, 1) := by decide +kernel
theorem dX11_worst_11 : decode cX11_worst 11 = .ok (.iconst 0, 1) := by decide +kernel
theorem dX11_worst_12 : decode cX11_worst 12 = .ok (.iconst 1, 1) := by decide +kernel
theorem dX11_worst_13 : decode cX11_worst 13 = .ok (.invokevirtual 189, 3) := by decide +kernel
theorem dX11_worst_16 : decode cX11_worst 16 = .ok (.aload_n 0, 1) := by decide +kernel
theorem dX11_worst_17 : decode cX11_worst 17 = .ok (.invokevirtual 283, 3) := by decide +kernel
theorem dX11_worst_20 : decode cX11_worst 20 = .ok (.ifCond .eq 5, 3) := by decide +kernel
theorem dX11_worst_23 : decode cX11_worst 23 = .ok (.iconst (-1), 1) := by decide +kernel
theorem dX11_worst_24 : decode cX11_worst 24 = .ok (.ireturn, 1) := by decide +kernel
theorem dX11_worst_25 : decode cX11_worst 25 = .ok (.iconst (-1), 1) := by decide +kernel
theorem dX11_worst_26 : decode cX11_worst 26 = .ok (.istore 4, 2) := by decide +kernel
theorem dX11_worst_28 : decode cX11_worst 28 = .ok (.iconst (-1), 1) := by decide +kernel
theorem dX11_worst_29 : decode cX11_worst 29 = .ok (.istore 5, 2) := by decide +kernel
theorem dX11_worst_31 : decode cX11_worst 31 = .ok (.iconst 0, 1) := by decide +kernel
theorem dX11_worst_32 : decode cX11_worst 32 = .ok (.istore 6, 2) := by decide +kernel
theorem dX11_worst_34 : decode cX11_worst 34 = .ok (.iload 6, 2) := by decide +kernel
theorem dX11_worst_36 : decode cX11_worst 36 = .ok (.iload_n 2, 1) := by decide +kernel
theorem dX11_worst_37 : decode cX11_worst 37 = .ok (.if_icmp .ge 41, 3) := by decide +kernel
theorem dX11_worst_40 : decode cX11_worst 40 = .ok (.iload_n 1, 1) := by decide +kernel
theorem dX11_worst_41 : decode cX11_worst 41 = .ok (.iload 6, 2) := by decide +kernel
theorem dX11_worst_43 : decode cX11_worst 43 = .ok (.iadd, 1) := by decide +kernel
theorem dX11_worst_44 : decode cX11_worst 44 = .ok (.aload_n 0, 1) := by decide +kernel
theorem dX11_worst_45 : decode cX11_worst 45 = .ok (.iload_n 1, 1) := by decide +kernel
theorem dX11_worst_46 : decode cX11_worst 46 = .ok (.iload 6, 2) := by decide +kernel
theorem dX11_worst_48 : decode cX11_worst 48 = .ok (.iadd, 1) := by decide +kernel
theorem dX11_worst_49 : decode cX11_worst 49 = .ok (.invokevirtual 286, 3) := by decide +kernel
theorem dX11_worst_52 : decode cX11_worst 52 = .ok (.invokestatic 289, 3) := by decide +kernel
theorem dX11_worst_55 : decode cX11_worst 55 = .ok (.istore 7, 2) := by decide +kernel
theorem dX11_worst_57 : decode cX11_worst 57 = .ok (.iload 7, 2) := by decide +kernel
theorem dX11_worst_59 : decode cX11_worst 59 = .ok (.iload 5, 2) := by decide +kernel
theorem dX11_worst_61 : decode cX11_worst 61 = .ok (.if_icmp .le 11, 3) := by decide +kernel
theorem dX11_worst_64 : decode cX11_worst 64 = .ok (.iload 7, 2) := by decide +kernel
theorem dX11_worst_66 : decode cX11_worst 66 = .ok (.istore 5, 2) := by decide +kernel
theorem dX11_worst_68 : decode cX11_worst 68 = .ok (.iload 6, 2) := by decide +kernel
theorem dX11_worst_70 : decode cX11_worst 70 = .ok (.istore 4, 2) := by decide +kernel
theorem dX11_worst_72 : decode cX11_worst 72 = .ok (.iinc 6 1, 3) := by decide +kernel
theorem dX11_worst_75 : decode cX11_worst 75 = .ok (.goto (-41), 3) := by decide +kernel
theorem dX11_worst_78 : decode cX11_worst 78 = .ok (.iload_n 3, 1) := by decide +kernel
theorem dX11_worst_79 : decode cX11_worst 79 = .ok (.ifCond .ne 8, 3) := by decide +kernel
theorem dX11_worst_82 : decode cX11_worst 82 = .ok (.iload 4, 2) := by decide +kernel
theorem dX11_worst_84 : decode cX11_worst 84 = .ok (.goto 5, 3) := by decide +kernel
theorem dX11_worst_87 : decode cX11_worst 87 = .ok (.iload 5, 2) := by decide +kernel
theorem dX11_worst_89 : decode cX11_worst 89 = .ok (.ireturn, 1) := by decide +kernel
theorem dX11_best_0 : decode cX11_best 0 = .ok (.aload_n 0, 1) := by decide +kernel
theorem dX11_best_1 : decode cX11_best 1 = .ok (.iload_n 1, 1) := by decide +kernel
theorem dX11_best_2 : decode cX11_best 2 = .ok (.invokevirtual 215, 3) := by decide +kernel
theorem dX11_best_5 : decode cX11_best 5 = .ok (.aload_n 0, 1) := by decide +kernel
theorem dX11_best_6 : decode cX11_best 6 = .ok (.iload_n 2, 1) := by decide +kernel
theorem dX11_best_7 : decode cX11_best 7 = .ok (.invokevirtual 215, 3) := by decide +kernel
theorem dX11_best_10 : decode cX11_best 10 = .ok (.aload_n 0, 1) := by decide +kernel
theorem dX11_best_11 : decode cX11_best 11 = .ok (.iload 4, 2) := by decide +kernel
theorem dX11_best_13 : decode cX11_best 13 = .ok (.iconst 0, 1) := by decide +kernel
theorem dX11_best_14 : decode cX11_best 14 = .ok (.iconst 1, 1) := by decide +kernel
theorem dX11_best_15 : decode cX11_best 15 = .ok (.invokevirtual 189, 3) := by decide +kernel
theorem dX11_best_18 : decode cX11_best 18 = .ok (.aload_n 0, 1) := by decide +kernel
theorem dX11_best_19 : decode cX11_best 19 = .ok (.getfield 47, 3) := by decide +kernel
theorem dX11_best_22 : decode cX11_best 22 = .ok (.aload_n 0, 1) := by decide +kernel
theorem dX11_best_23 : decode cX11_best 23 = .ok (.getfield 33, 3) := by decide +kernel
theorem dX11_best_26 : decode cX11_best 26 = .ok (.aload_n 0, 1) := by decide +kernel
theorem dX11_best_27 : decode cX11_best 27 = .ok (.getfield 68, 3) := by decide +kernel
theorem dX11_best_30 : decode cX11_best 30 = .ok (.iload_n 1, 1) := by decide +kernel
theorem dX11_best_31 : decode cX11_best 31 = .ok (.iload_n 2, 1) := by decide +kernel
theorem dX11_best_32 : decode cX11_best 32 = .ok (.iload_n 3, 1) := by decide +kernel
theorem dX11_best_33 : decode cX11_best 33 = .ok (.invokevirtual 293, 3) := by decide +kernel
theorem dX11_best_36 : decode cX11_best 36 = .ok (.aload_n 0, 1) := by decide +kernel
theorem dX11_best_37 : decode cX11_best 37 = .ok (.getfield 47, 3) := by decide +kernel
theorem dX11_best_40 : decode cX11_best 40 = .ok (.getfield 297, 3) := by decide +kernel
theorem dX11_best_43 : decode cX11_best 43 = .ok (.ifCond .ne 5, 3) := by decide +kernel
theorem dX11_best_46 : decode cX11_best 46 = .ok (.iconst (-1), 1) := by decide +kernel
theorem dX11_best_47 : decode cX11_best 47 = .ok (.ireturn, 1) := by decide +kernel
theorem dX11_best_48 : decode cX11_best 48 = .ok (.iload 4, 2) := by decide +kernel
theorem dX11_best_50 : decode cX11_best 50 = .ok (.ifCond .ne 13, 3) := by decide +kernel
theorem dX11_best_53 : decode cX11_best 53 = .ok (.aload_n 0, 1) := by decide +kernel
theorem dX11_best_54 : decode cX11_best 54 = .ok (.getfield 47, 3) := by decide +kernel
theorem dX11_best_57 : decode cX11_best 57 = .ok (.getfield 298, 3) := by decide +kernel
theorem dX11_best_60 : decode cX11_best 60 = .ok (.goto 10, 3) := by decide +kernel
theorem dX11_best_63 : decode cX11_best 63 = .ok (.aload_n 0, 1) := by decide +kernel
theorem dX11_best_64 : decode cX11_best 64 = .ok (.getfield 47, 3) := by decide +kernel
theorem dX11_best_67 : decode cX11_best 67 = .ok (.getfield 297, 3) := by decide +kernel
theorem dX11_best_70 : decode cX11_best 70 = .ok (.ireturn, 1) := by decide +kernel
theorem dX11_hop_0 : decode cX11_hop 0 = .ok (.aload_n 0, 1) := by decide +kernel
theorem dX11_hop_1 : decode cX11_hop 1 = .ok (.iload_n 1, 1) := by decide +kernel
theorem dX11_hop_2 : decode cX11_hop 2 = .ok (.invokevirtual 215, 3) := by decide +kernel
theorem dX11_hop_5 : decode cX11_hop 5 = .ok (.aload_n 0, 1) := by decide +kernel
theorem dX11_hop_6 : decode cX11_hop 6 = .ok (.iload_n 2, 1) := by decide +kernel
theorem dX11_hop_7 : decode cX11_hop 7 = .ok (.invokevirtual 215, 3) := by decide +kernel
theorem dX11_hop_10 : decode cX11_hop 10 = .ok (.iload 4, 2) := by decide +kernel
theorem dX11_hop_12 : decode cX11_hop 12 = .ok (.ifCond .ge 7, 3) := by decide +kernel
theorem dX11_hop_15 : decode cX11_hop 15 = .ok (.aload_n 0, 1) := by decide +kernel
theorem dX11_hop_16 : decode cX11_hop 16 = .ok (.invokevirtual 301, 3) := by decide +kernel
theorem dX11_hop_19 : decode cX11_hop 19 = .ok (.aload_n 0, 1) := by decide +kernel
theorem dX11_hop_20 : decode cX11_hop 20 = .ok (.getfield 47, 3) := by decide +kernel
theorem dX11_hop_23 : decode cX11_hop 23 = .ok (.aload_n 0, 1) := by decide +kernel
theorem dX11_hop_24 : decode cX11_hop 24 = .ok (.getfield 33, 3) := by decide +kernel
theorem dX11_hop_27 : decode cX11_hop 27 = .ok (.aload_n 0, 1) := by decide +kernel
theorem dX11_hop_28 : decode cX11_hop 28 = .ok (.getfield 68, 3) := by decide +kernel
theorem dX11_hop_31 : decode cX11_hop 31 = .ok (.iload_n 1, 1) := by decide +kernel
theorem dX11_hop_32 : decode cX11_hop 32 = .ok (.iload_n 2, 1) := by decide +kernel
theorem dX11_hop_33 : decode cX11_hop 33 = .ok (.iload_n 3, 1) := by decide +kernel
theorem dX11_hop_34 : decode cX11_hop 34 = .ok (.invokevirtual 293, 3) := by decide +kernel
theorem dX11_hop_37 : decode cX11_hop 37 = .ok (.iload 4, 2) := by decide +kernel
theorem dX11_hop_39 : decode cX11_hop 39 = .ok (.aload_n 0, 1) := by decide +kernel
theorem dX11_hop_40 : decode cX11_hop 40 = .ok (.getfield 47, 3) := by decide +kernel
theorem dX11_hop_43 : decode cX11_hop 43 = .ok (.getfield 297, 3) := by decide +kernel
theorem dX11_hop_46 : decode cX11_hop 46 = .ok (.if_icmp .ge 16, 3) := by decide +kernel
theorem dX11_hop_49 : decode cX11_hop 49 = .ok (.aload_n 0, 1) := by decide +kernel
theorem dX11_hop_50 : decode cX11_hop 50 = .ok (.getfield 47, 3) := by decide +kernel
theorem dX11_hop_53 : decode cX11_hop 53 = .ok (.getfield 304, 3) := by decide +kernel
theorem dX11_hop_56 : decode cX11_hop 56 = .ok (.iload 4, 2) := by decide +kernel
theorem dX11_hop_58 : decode cX11_hop 58 = .ok (.iaload, 1) := by decide +kernel
theorem dX11_hop_59 : decode cX11_hop 59 = .ok (.goto 4, 3) := by decide +kernel
theorem dX11_hop_62 : decode cX11_hop 62 = .ok (.iconst (-1), 1) := by decide +kernel
theorem dX11_hop_63 : decode cX11_hop 63 = .ok (.ireturn, 1) := by decide +kernel
theorem dX11_tuning_0 : decode cX11_tuning 0 = .ok (.aload_n 0, 1) := by decide +kernel
theorem dX11_tuning_1 : decode cX11_tuning 1 = .ok (.iload_n 1, 1) := by decide +kernel
theorem dX11_tuning_2 : decode cX11_tuning 2 = .ok (.invokevirtual 215, 3) := by decide +kernel
theorem dX11_tuning_5 : decode cX11_tuning 5 = .ok (.aload_n 0, 1) := by decide +kernel
theorem dX11_tuning_6 : decode cX11_tuning 6 = .ok (.getfield 54, 3) := by decide +kernel
theorem dX11_tuning_9 : decode cX11_tuning 9 = .ok (.aload_n 0, 1) := by decide +kernel
theorem dX11_tuning_10 : decode cX11_tuning 10 = .ok (.getfield 33, 3) := by decide +kernel
theorem dX11_tuning_13 : decode cX11_tuning 13 = .ok (.getfield 218, 3) := by decide +kernel
theorem dX11_tuning_16 : decode cX11_tuning 16 = .ok (.iload_n 1, 1) := by decide +kernel
theorem dX11_tuning_17 : decode cX11_tuning 17 = .ok (.aaload, 1) := by decide +kernel
theorem dX11_tuning_18 : decode cX11_tuning 18 = .ok (.getfield 221, 3) := by decide +kernel
theorem dX11_tuning_21 : decode cX11_tuning 21 = .ok (.putfield 221, 3) := by decide +kernel
theorem dX11_tuning_24 : decode cX11_tuning 24 = .ok (.iconst 2, 1) := by decide +kernel
theorem dX11_tuning_25 : decode cX11_tuning 25 = .ok (.istore 4, 2) := by decide +kernel
theorem dX11_tuning_27 : decode cX11_tuning 27 = .ok (.iload 4, 2) := by decide +kernel
theorem dX11_tuning_29 : decode cX11_tuning 29 = .ok (.sipush 198, 3) := by decide +kernel
theorem dX11_tuning_32 : decode cX11_tuning 32 = .ok (.if_icmp .gt 89, 3) := by decide +kernel
theorem dX11_tuning_35 : decode cX11_tuning 35 = .ok (.iload 4, 2) := by decide +kernel
theorem dX11_tuning_37 : decode cX11_tuning 37 = .ok (.iconst 1, 1) := by decide +kernel
theorem dX11_tuning_38 : decode cX11_tuning 38 = .ok (.isub, 1) := by decide +kernel
theorem dX11_tuning_39 : decode cX11_tuning 39 = .ok (.bipush 99, 2) := by decide +kernel
theorem dX11_tuning_41 : decode cX11_tuning 41 = .ok (.invokestatic 307, 3) := by decide +kernel
theorem dX11_tuning_44 : decode cX11_tuning 44 = .ok (.istore 5, 2) := by decide +kernel
theorem dX11_tuning_46 : decode cX11_tuning 46 = .ok (.iconst 1, 1) := by decide +kernel
theorem dX11_tuning_47 : decode cX11_tuning 47 = .ok (.iload 4, 2) := by decide +kernel
theorem dX11_tuning_49 : decode cX11_tuning 49 = .ok (.bipush 99, 2) := by decide +kernel
theorem dX11_tuning_51 : decode cX11_tuning 51 = .ok (.isub, 1) := by decide +kernel
theorem dX11_tuning_52 : decode cX11_tuning 52 = .ok (.invokestatic 312, 3) := by decide +kernel
theorem dX11_tuning_55 : decode cX11_tuning 55 = .ok (.istore 6, 2) := by decide +kernel
theorem dX11_tuning_57 : decode cX11_tuning 57 = .ok (.iload 6, 2) := by decide +kernel
theorem dX11_tuning_59 : decode cX11_tuning 59 = .ok (.iload 5, 2) := by decide +kernel
theorem dX11_tuning_61 : decode cX11_tuning 61 = .ok (.if_icmp .gt 54, 3) := by decide +kernel
theorem dX11_tuning_64 : decode cX11_tuning 64 = .ok (.aload_n 0, 1) := by decide +kernel
theorem dX11_tuning_65 : decode cX11_tuning 65 = .ok (.getfield 54, 3) := by decide +kernel
theorem dX11_tuning_68 : decode cX11_tuning 68 = .ok (.iload 6, 2) := by decide +kernel
theorem dX11_tuning_70 : decode cX11_tuning 70 = .ok (.putfield 224, 3) := by decide +kernel
theorem dX11_tuning_73 : decode cX11_tuning 73 = .ok (.aload_n 0, 1) := by decide +kernel
theorem dX11_tuning_74 : decode cX11_tuning 74 = .ok (.getfield 54, 3) := by decide +kernel
theorem dX11_tuning_77 : decode cX11_tuning 77 = .ok (.iload 4, 2) := by decide +kernel
theorem dX11_tuning_79 : decode cX11_tuning 79 = .ok (.iload 6, 2) := by decide +kernel
theorem dX11_tuning_81 : decode cX11_tuning 81 = .ok (.isub, 1) := by decide +kernel
theorem dX11_tuning_82 : decode cX11_tuning 82 = .ok (.putfield 227, 3) := by decide +kernel
theorem dX11_tuning_85 : decode cX11_tuning 85 = .ok (.aload_n 0, 1) := by decide +kernel
theorem dX11_tuning_86 : decode cX11_tuning 86 = .ok (.getfield 54, 3) := by decide +kernel
theorem dX11_tuning_89 : decode cX11_tuning 89 = .ok (.iload_n 2, 1) := by decide +kernel
theorem dX11_tuning_90 : decode cX11_tuning 90 = .ok (.invokevirtual 262, 3) := by decide +kernel
theorem dX11_tuning_93 : decode cX11_tuning 93 = .ok (.iload_n 3, 1) := by decide +kernel
theorem dX11_tuning_94 : decode cX11_tuning 94 = .ok (.if_icmp .ne 15, 3) := by decide +kernel
theorem dX11_tuning_97 : decode cX11_tuning 97 = .ok (.bipush 100, 2) := by decide +kernel
theorem dX11_tuning_99 : decode cX11_tuning 99 = .ok (.iload 6, 2) := by decide +kernel
theorem dX11_tuning_101 : decode cX11_tuning 101 = .ok (.imul, 1) := by decide +kernel
theorem dX11_tuning_102 : decode cX11_tuning 102 = .ok (.iload 4, 2) := by decide +kernel
theorem dX11_tuning_104 : decode cX11_tuning 104 = .ok (.iadd, 1) := by decide +kernel
theorem dX11_tuning_105 : decode cX11_tuning 105 = .ok (.iload 6, 2) := by decide +kernel
theorem dX11_tuning_107 : decode cX11_tuning 107 = .ok (.isub, 1) := by decide +kernel
theorem dX11_tuning_108 : decode cX11_tuning 108 = .ok (.ireturn, 1) := by decide +kernel
theorem dX11_tuning_109 : decode cX11_tuning 109 = .ok (.iinc 6 1, 3) := by decide +kernel
theorem dX11_tuning_112 : decode cX11_tuning 112 = .ok (.goto (-55), 3) := by decide +kernel
theorem dX11_tuning_115 : decode cX11_tuning 115 = .ok (.iinc 4 1, 3) := by decide +kernel
theorem dX11_tuning_118 : decode cX11_tuning 118 = .ok (.goto (-91), 3) := by decide +kernel
theorem dX11_tuning_121 : decode cX11_tuning 121 = .ok (.iconst (-1), 1) := by decide +kernel
theorem dX11_tuning_122 : decode cX11_tuning 122 = .ok (.ireturn, 1) := by decide +kernel
theorem dX11_ring_0 : decode cX11_ring 0 = .ok (.aload_n 0, 1) := by decide +kernel
theorem dX11_ring_1 : decode cX11_ring 1 = .ok (.iload_n 1, 1) := by decide +kernel
theorem dX11_ring_2 : decode cX11_ring 2 = .ok (.invokevirtual 215, 3) := by decide +kernel
theorem dX11_ring_5 : decode cX11_ring 5 = .ok (.aload_n 0, 1) := by decide +kernel
theorem dX11_ring_6 : decode cX11_ring 6 = .ok (.iload_n 3, 1) := by decide +kernel
theorem dX11_ring_7 : decode cX11_ring 7 = .ok (.iconst 0, 1) := by decide +kernel
theorem dX11_ring_8 : decode cX11_ring 8 = .ok (.iconst 1, 1) := by decide +kernel
theorem dX11_ring_9 : decode cX11_ring 9 = .ok (.invokevirtual 189, 3) := by decide +kernel
theorem dX11_ring_12 : decode cX11_ring 12 = .ok (.aload_n 0, 1) := by decide +kernel
theorem dX11_ring_13 : decode cX11_ring 13 = .ok (.getfield 33, 3) := by decide +kernel
theorem dX11_ring_16 : decode cX11_ring 16 = .ok (.getfield 218, 3) := by decide +kernel
theorem dX11_ring_19 : decode cX11_ring 19 = .ok (.iload_n 1, 1) := by decide +kernel
theorem dX11_ring_20 : decode cX11_ring 20 = .ok (.aaload, 1) := by decide +kernel
theorem dX11_ring_21 : decode cX11_ring 21 = .ok (.invokevirtual 256, 3) := by decide +kernel
theorem dX11_ring_24 : decode cX11_ring 24 = .ok (.ifCond .eq 5, 3) := by decide +kernel
theorem dX11_ring_27 : decode cX11_ring 27 = .ok (.iconst (-1), 1) := by decide +kernel
theorem dX11_ring_28 : decode cX11_ring 28 = .ok (.ireturn, 1) := by decide +kernel
theorem dX11_ring_29 : decode cX11_ring 29 = .ok (.aload_n 0, 1) := by decide +kernel
theorem dX11_ring_30 : decode cX11_ring 30 = .ok (.aload_n 0, 1) := by decide +kernel
theorem dX11_ring_31 : decode cX11_ring 31 = .ok (.getfield 33, 3) := by decide +kernel
theorem dX11_ring_34 : decode cX11_ring 34 = .ok (.getfield 218, 3) := by decide +kernel
theorem dX11_ring_37 : decode cX11_ring 37 = .ok (.iload_n 1, 1) := by decide +kernel
theorem dX11_ring_38 : decode cX11_ring 38 = .ok (.aaload, 1) := by decide +kernel
theorem dX11_ring_39 : decode cX11_ring 39 = .ok (.iload_n 2, 1) := by decide +kernel
theorem dX11_ring_40 : decode cX11_ring 40 = .ok (.invokevirtual 315, 3) := by decide +kernel
theorem dX11_ring_43 : decode cX11_ring 43 = .ok (.aload_n 0, 1) := by decide +kernel
theorem dX11_ring_44 : decode cX11_ring 44 = .ok (.invokevirtual 319, 3) := by decide +kernel
theorem dX11_ring_47 : decode cX11_ring 47 = .ok (.istore 4, 2) := by decide +kernel
theorem dX11_ring_49 : decode cX11_ring 49 = .ok (.iload 4, 2) := by decide +kernel
theorem dX11_ring_51 : decode cX11_ring 51 = .ok (.iconst (-1), 1) := by decide +kernel
theorem dX11_ring_52 : decode cX11_ring 52 = .ok (.if_icmp .eq 8, 3) := by decide +kernel
theorem dX11_ring_55 : decode cX11_ring 55 = .ok (.iload_n 3, 1) := by decide +kernel
theorem dX11_ring_56 : decode cX11_ring 56 = .ok (.iconst 1, 1) := by decide +kernel
theorem dX11_ring_57 : decode cX11_ring 57 = .ok (.if_icmp .ne 6, 3) := by decide +kernel
theorem dX11_ring_60 : decode cX11_ring 60 = .ok (.iload 4, 2) := by decide +kernel
theorem dX11_ring_62 : decode cX11_ring 62 = .ok (.ireturn, 1) := by decide +kernel
theorem dX11_ring_63 : decode cX11_ring 63 = .ok (.aload_n 0, 1) := by decide +kernel
theorem dX11_ring_64 : decode cX11_ring 64 = .ok (.iload 4, 2) := by decide +kernel
theorem dX11_ring_66 : decode cX11_ring 66 = .ok (.invokevirtual 322, 3) := by decide +kernel
theorem dX11_ring_69 : decode cX11_ring 69 = .ok (.iload 4, 2) := by decide +kernel
theorem dX11_ring_71 : decode cX11_ring 71 = .ok (.iadd, 1) := by decide +kernel
theorem dX11_ring_72 : decode cX11_ring 72 = .ok (.ireturn, 1) := by decide +kernel
theorem dX11_fits_0 : decode cX11_fits 0 = .ok (.iconst 0, 1) := by decide +kernel
theorem dX11_fits_1 : decode cX11_fits 1 = .ok (.istore_n 1, 1) := by decide +kernel
theorem dX11_fits_2 : decode cX11_fits 2 = .ok (.iconst 0, 1) := by decide +kernel
theorem dX11_fits_3 : decode cX11_fits 3 = .ok (.istore_n 2, 1) := by decide +kernel
theorem dX11_fits_4 : decode cX11_fits 4 = .ok (.iload_n 2, 1) := by decide +kernel
theorem dX11_fits_5 : decode cX11_fits 5 = .ok (.aload_n 0, 1) := by decide +kernel
theorem dX11_fits_6 : decode cX11_fits 6 = .ok (.getfield 68, 3) := by decide +kernel
theorem dX11_fits_9 : decode cX11_fits 9 = .ok (.getfield 144, 3) := by decide +kernel
theorem dX11_fits_12 : decode cX11_fits 12 = .ok (.if_icmp .ge 31, 3) := by decide +kernel
theorem dX11_fits_15 : decode cX11_fits 15 = .ok (.aload_n 0, 1) := by decide +kernel
theorem dX11_fits_16 : decode cX11_fits 16 = .ok (.aload_n 0, 1) := by decide +kernel
theorem dX11_fits_17 : decode cX11_fits 17 = .ok (.getfield 33, 3) := by decide +kernel
theorem dX11_fits_20 : decode cX11_fits 20 = .ok (.getfield 218, 3) := by decide +kernel
theorem dX11_fits_23 : decode cX11_fits 23 = .ok (.iload_n 2, 1) := by decide +kernel
theorem dX11_fits_24 : decode cX11_fits 24 = .ok (.aaload, 1) := by decide +kernel
theorem dX11_fits_25 : decode cX11_fits 25 = .ok (.invokevirtual 325, 3) := by decide +kernel
theorem dX11_fits_28 : decode cX11_fits 28 = .ok (.ifCond .eq 9, 3) := by decide +kernel
theorem dX11_fits_31 : decode cX11_fits 31 = .ok (.iload_n 1, 1) := by decide +kernel
theorem dX11_fits_32 : decode cX11_fits 32 = .ok (.iconst 1, 1) := by decide +kernel
theorem dX11_fits_33 : decode cX11_fits 33 = .ok (.iload_n 2, 1) := by decide +kernel
theorem dX11_fits_34 : decode cX11_fits 34 = .ok (.ishl, 1) := by decide +kernel
theorem dX11_fits_35 : decode cX11_fits 35 = .ok (.ior, 1) := by decide +kernel
theorem dX11_fits_36 : decode cX11_fits 36 = .ok (.istore_n 1, 1) := by decide +kernel
theorem dX11_fits_37 : decode cX11_fits 37 = .ok (.iinc 2 1, 3) := by decide +kernel
theorem dX11_fits_40 : decode cX11_fits 40 = .ok (.goto (-36), 3) := by decide +kernel
theorem dX11_fits_43 : decode cX11_fits 43 = .ok (.iload_n 1, 1) := by decide +kernel
theorem dX11_fits_44 : decode cX11_fits 44 = .ok (.ireturn, 1) := by decide +kernel
theorem dX11_look_0 : decode cX11_look 0 = .ok (.aload_n 0, 1) := by decide +kernel
theorem dX11_look_1 : decode cX11_look 1 = .ok (.iload_n 1, 1) := by decide +kernel
theorem dX11_look_2 : decode cX11_look 2 = .ok (.iconst 0, 1) := by decide +kernel
theorem dX11_look_3 : decode cX11_look 3 = .ok (.iconst 1, 1) := by decide +kernel
theorem dX11_look_4 : decode cX11_look 4 = .ok (.invokevirtual 189, 3) := by decide +kernel
theorem dX11_look_7 : decode cX11_look 7 = .ok (.aload_n 0, 1) := by decide +kernel
theorem dX11_look_8 : decode cX11_look 8 = .ok (.invokevirtual 329, 3) := by decide +kernel
theorem dX11_look_11 : decode cX11_look 11 = .ok (.istore_n 2, 1) := by decide +kernel
theorem dX11_look_12 : decode cX11_look 12 = .ok (.iload_n 2, 1) := by decide +kernel
theorem dX11_look_13 : decode cX11_look 13 = .ok (.ifCond .ne 5, 3) := by decide +kernel
theorem dX11_look_16 : decode cX11_look 16 = .ok (.iconst (-1), 1) := by decide +kernel
theorem dX11_look_17 : decode cX11_look 17 = .ok (.ireturn, 1) := by decide +kernel
theorem dX11_look_18 : decode cX11_look 18 = .ok (.iconst (-1), 1) := by decide +kernel
theorem dX11_look_19 : decode cX11_look 19 = .ok (.istore_n 3, 1) := by decide +kernel
theorem dX11_look_20 : decode cX11_look 20 = .ok (.bipush 9, 2) := by decide +kernel
theorem dX11_look_22 : decode cX11_look 22 = .ok (.istore 4, 2) := by decide +kernel
theorem dX11_look_24 : decode cX11_look 24 = .ok (.iconst 0, 1) := by decide +kernel
theorem dX11_look_25 : decode cX11_look 25 = .ok (.istore 5, 2) := by decide +kernel
theorem dX11_look_27 : decode cX11_look 27 = .ok (.iload 5, 2) := by decide +kernel
theorem dX11_look_29 : decode cX11_look 29 = .ok (.bipush 100, 2) := by decide +kernel
theorem dX11_look_31 : decode cX11_look 31 = .ok (.if_icmp .ge 32, 3) := by decide +kernel
theorem dX11_look_34 : decode cX11_look 34 = .ok (.aload_n 0, 1) := by decide +kernel
theorem dX11_look_35 : decode cX11_look 35 = .ok (.iload_n 2, 1) := by decide +kernel
theorem dX11_look_36 : decode cX11_look 36 = .ok (.iload 5, 2) := by decide +kernel
theorem dX11_look_38 : decode cX11_look 38 = .ok (.invokevirtual 332, 3) := by decide +kernel
theorem dX11_look_41 : decode cX11_look 41 = .ok (.istore 6, 2) := by decide +kernel
theorem dX11_look_43 : decode cX11_look 43 = .ok (.iload 6, 2) := by decide +kernel
theorem dX11_look_45 : decode cX11_look 45 = .ok (.iload 4, 2) := by decide +kernel
theorem dX11_look_47 : decode cX11_look 47 = .ok (.if_icmp .ge 10, 3) := by decide +kernel
theorem dX11_look_50 : decode cX11_look 50 = .ok (.iload 6, 2) := by decide +kernel
theorem dX11_look_52 : decode cX11_look 52 = .ok (.istore 4, 2) := by decide +kernel
theorem dX11_look_54 : decode cX11_look 54 = .ok (.iload 5, 2) := by decide +kernel
theorem dX11_look_56 : decode cX11_look 56 = .ok (.istore_n 3, 1) := by decide +kernel
theorem dX11_look_57 : decode cX11_look 57 = .ok (.iinc 5 1, 3) := by decide +kernel
theorem dX11_look_60 : decode cX11_look 60 = .ok (.goto (-33), 3) := by decide +kernel
theorem dX11_look_63 : decode cX11_look 63 = .ok (.iload_n 1, 1) := by decide +kernel
theorem dX11_look_64 : decode cX11_look 64 = .ok (.ifCond .ne 7, 3) := by decide +kernel
theorem dX11_look_67 : decode cX11_look 67 = .ok (.iload_n 3, 1) := by decide +kernel
theorem dX11_look_68 : decode cX11_look 68 = .ok (.goto 5, 3) := by decide +kernel
theorem dX11_look_71 : decode cX11_look 71 = .ok (.iload 4, 2) := by decide +kernel
theorem dX11_look_73 : decode cX11_look 73 = .ok (.ireturn, 1) := by decide +kernel
theorem dX11_ready_0 : decode cX11_ready 0 = .ok (.iconst 0, 1) := by decide +kernel
theorem dX11_ready_1 : decode cX11_ready 1 = .ok (.istore_n 2, 1) := by decide +kernel
theorem dX11_ready_2 : decode cX11_ready 2 = .ok (.iconst 0, 1) := by decide +kernel
theorem dX11_ready_3 : decode cX11_ready 3 = .ok (.istore_n 3, 1) := by decide +kernel
theorem dX11_ready_4 : decode cX11_ready 4 = .ok (.iload_n 3, 1) := by decide +kernel
theorem dX11_ready_5 : decode cX11_ready 5 = .ok (.aload_n 0, 1) := by decide +kernel
theorem dX11_ready_6 : decode cX11_ready 6 = .ok (.getfield 68, 3) := by decide +kernel
theorem dX11_ready_9 : decode cX11_ready 9 = .ok (.getfield 144, 3) := by decide +kernel
theorem dX11_ready_12 : decode cX11_ready 12 = .ok (.if_icmp .ge 30, 3) := by decide +kernel
theorem dX11_ready_15 : decode cX11_ready 15 = .ok (.aload_n 0, 1) := by decide +kernel
theorem dX11_ready_16 : decode cX11_ready 16 = .ok (.getfield 33, 3) := by decide +kernel
theorem dX11_ready_19 : decode cX11_ready 19 = .ok (.getfield 218, 3) := by decide +kernel
theorem dX11_ready_22 : decode cX11_ready 22 = .ok (.iload_n 3, 1) := by decide +kernel
theorem dX11_ready_23 : decode cX11_ready 23 = .ok (.aaload, 1) := by decide +kernel
theorem dX11_ready_24 : decode cX11_ready 24 = .ok (.invokevirtual 335, 3) := by decide +kernel
theorem dX11_ready_27 : decode cX11_ready 27 = .ok (.ifCond .eq 9, 3) := by decide +kernel
theorem dX11_ready_30 : decode cX11_ready 30 = .ok (.iload_n 2, 1) := by decide +kernel
theorem dX11_ready_31 : decode cX11_ready 31 = .ok (.iconst 1, 1) := by decide +kernel
theorem dX11_ready_32 : decode cX11_ready 32 = .ok (.iload_n 3, 1) := by decide +kernel
theorem dX11_ready_33 : decode cX11_ready 33 = .ok (.ishl, 1) := by decide +kernel
theorem dX11_ready_34 : decode cX11_ready 34 = .ok (.ior, 1) := by decide +kernel
theorem dX11_ready_35 : decode cX11_ready 35 = .ok (.istore_n 2, 1) := by decide +kernel
theorem dX11_ready_36 : decode cX11_ready 36 = .ok (.iinc 3 1, 3) := by decide +kernel
theorem dX11_ready_39 : decode cX11_ready 39 = .ok (.goto (-35), 3) := by decide +kernel
theorem dX11_ready_42 : decode cX11_ready 42 = .ok (.iload_n 2, 1) := by decide +kernel
theorem dX11_ready_43 : decode cX11_ready 43 = .ok (.ireturn, 1) := by decide +kernel
theorem dX11_latest_0 : decode cX11_latest 0 = .ok (.aload_n 0, 1) := by decide +kernel
theorem dX11_latest_1 : decode cX11_latest 1 = .ok (.iload_n 1, 1) := by decide +kernel
theorem dX11_latest_2 : decode cX11_latest 2 = .ok (.invokevirtual 215, 3) := by decide +kernel
theorem dX11_latest_5 : decode cX11_latest 5 = .ok (.aload_n 0, 1) := by decide +kernel
theorem dX11_latest_6 : decode cX11_latest 6 = .ok (.getfield 33, 3) := by decide +kernel
theorem dX11_latest_9 : decode cX11_latest 9 = .ok (.getfield 218, 3) := by decide +kernel
theorem dX11_latest_12 : decode cX11_latest 12 = .ok (.iload_n 1, 1) := by decide +kernel
theorem dX11_latest_13 : decode cX11_latest 13 = .ok (.aaload, 1) := by decide +kernel
theorem dX11_latest_14 : decode cX11_latest 14 = .ok (.astore_n 2, 1) := by decide +kernel
theorem dX11_latest_15 : decode cX11_latest 15 = .ok (.aload_n 2, 1) := by decide +kernel
theorem dX11_latest_16 : decode cX11_latest 16 = .ok (.getfield 230, 3) := by decide +kernel
theorem dX11_latest_19 : decode cX11_latest 19 = .ok (.iconst (-1), 1) := by decide +kernel
theorem dX11_latest_20 : decode cX11_latest 20 = .ok (.if_icmp .ne 24, 3) := by decide +kernel
theorem dX11_latest_23 : decode cX11_latest 23 = .ok (.aload_n 0, 1) := by decide +kernel
theorem dX11_latest_24 : decode cX11_latest 24 = .ok (.getfield 62, 3) := by decide +kernel
theorem dX11_latest_27 : decode cX11_latest 27 = .ok (.iconst 2, 1) := by decide +kernel
theorem dX11_latest_28 : decode cX11_latest 28 = .ok (.dup2, 1) := by decide +kernel
theorem dX11_latest_29 : decode cX11_latest 29 = .ok (.iaload, 1) := by decide +kernel
theorem dX11_latest_30 : decode cX11_latest 30 = .ok (.iconst 1, 1) := by decide +kernel
theorem dX11_latest_31 : decode cX11_latest 31 = .ok (.iadd, 1) := by decide +kernel
theorem dX11_latest_32 : decode cX11_latest 32 = .ok (.iastore, 1) := by decide +kernel
theorem dX11_latest_33 : decode cX11_latest 33 = .ok (.new 338, 3) := by decide +kernel
theorem dX11_latest_36 : decode cX11_latest 36 = .ok (.dup, 1) := by decide +kernel
theorem dX11_latest_37 : decode cX11_latest 37 = .ok (.ldc_w 340, 3) := by decide +kernel
theorem dX11_latest_40 : decode cX11_latest 40 = .ok (.invokespecial 342, 3) := by decide +kernel
theorem dX11_latest_43 : decode cX11_latest 43 = .ok (.athrow, 1) := by decide +kernel
theorem dX11_latest_44 : decode cX11_latest 44 = .ok (.aload_n 0, 1) := by decide +kernel
theorem dX11_latest_45 : decode cX11_latest 45 = .ok (.iload_n 1, 1) := by decide +kernel
theorem dX11_latest_46 : decode cX11_latest 46 = .ok (.aload_n 2, 1) := by decide +kernel
theorem dX11_latest_47 : decode cX11_latest 47 = .ok (.getfield 233, 3) := by decide +kernel
theorem dX11_latest_50 : decode cX11_latest 50 = .ok (.iconst 1, 1) := by decide +kernel
theorem dX11_latest_51 : decode cX11_latest 51 = .ok (.isub, 1) := by decide +kernel
theorem dX11_latest_52 : decode cX11_latest 52 = .ok (.invokevirtual 250, 3) := by decide +kernel
theorem dX11_latest_55 : decode cX11_latest 55 = .ok (.aload_n 2, 1) := by decide +kernel
theorem dX11_latest_56 : decode cX11_latest 56 = .ok (.aload_n 2, 1) := by decide +kernel
theorem dX11_latest_57 : decode cX11_latest 57 = .ok (.getfield 233, 3) := by decide +kernel
theorem dX11_latest_60 : decode cX11_latest 60 = .ok (.iconst 1, 1) := by decide +kernel
theorem dX11_latest_61 : decode cX11_latest 61 = .ok (.isub, 1) := by decide +kernel
theorem dX11_latest_62 : decode cX11_latest 62 = .ok (.invokevirtual 253, 3) := by decide +kernel
theorem dX11_latest_65 : decode cX11_latest 65 = .ok (.ireturn, 1) := by decide +kernel
theorem dX11_alike_0 : decode cX11_alike 0 = .ok (.aload_n 0, 1) := by decide +kernel
theorem dX11_alike_1 : decode cX11_alike 1 = .ok (.iload_n 1, 1) := by decide +kernel
theorem dX11_alike_2 : decode cX11_alike 2 = .ok (.invokevirtual 215, 3) := by decide +kernel
theorem dX11_alike_5 : decode cX11_alike 5 = .ok (.aload_n 0, 1) := by decide +kernel
theorem dX11_alike_6 : decode cX11_alike 6 = .ok (.iload_n 2, 1) := by decide +kernel
theorem dX11_alike_7 : decode cX11_alike 7 = .ok (.invokevirtual 215, 3) := by decide +kernel
theorem dX11_alike_10 : decode cX11_alike 10 = .ok (.aload_n 0, 1) := by decide +kernel
theorem dX11_alike_11 : decode cX11_alike 11 = .ok (.getfield 33, 3) := by decide +kernel
theorem dX11_alike_14 : decode cX11_alike 14 = .ok (.getfield 218, 3) := by decide +kernel
theorem dX11_alike_17 : decode cX11_alike 17 = .ok (.iload_n 1, 1) := by decide +kernel
theorem dX11_alike_18 : decode cX11_alike 18 = .ok (.aaload, 1) := by decide +kernel
theorem dX11_alike_19 : decode cX11_alike 19 = .ok (.aload_n 0, 1) := by decide +kernel
theorem dX11_alike_20 : decode cX11_alike 20 = .ok (.getfield 33, 3) := by decide +kernel
theorem dX11_alike_23 : decode cX11_alike 23 = .ok (.getfield 218, 3) := by decide +kernel
theorem dX11_alike_26 : decode cX11_alike 26 = .ok (.iload_n 2, 1) := by decide +kernel
theorem dX11_alike_27 : decode cX11_alike 27 = .ok (.aaload, 1) := by decide +kernel
theorem dX11_alike_28 : decode cX11_alike 28 = .ok (.invokevirtual 345, 3) := by decide +kernel
theorem dX11_alike_31 : decode cX11_alike 31 = .ok (.ireturn, 1) := by decide +kernel
theorem dX11_chained_0 : decode cX11_chained 0 = .ok (.aload_n 0, 1) := by decide +kernel
theorem dX11_chained_1 : decode cX11_chained 1 = .ok (.iload_n 1, 1) := by decide +kernel
theorem dX11_chained_2 : decode cX11_chained 2 = .ok (.iconst 0, 1) := by decide +kernel
theorem dX11_chained_3 : decode cX11_chained 3 = .ok (.bipush 7, 2) := by decide +kernel
theorem dX11_chained_5 : decode cX11_chained 5 = .ok (.invokevirtual 189, 3) := by decide +kernel
theorem dX11_chained_8 : decode cX11_chained 8 = .ok (.iconst 0, 1) := by decide +kernel
theorem dX11_chained_9 : decode cX11_chained 9 = .ok (.istore_n 2, 1) := by decide +kernel
theorem dX11_chained_10 : decode cX11_chained 10 = .ok (.iconst 0, 1) := by decide +kernel
theorem dX11_chained_11 : decode cX11_chained 11 = .ok (.istore_n 3, 1) := by decide +kernel
theorem dX11_chained_12 : decode cX11_chained 12 = .ok (.iload_n 3, 1) := by decide +kernel
theorem dX11_chained_13 : decode cX11_chained 13 = .ok (.aload_n 0, 1) := by decide +kernel
theorem dX11_chained_14 : decode cX11_chained 14 = .ok (.getfield 88, 3) := by decide +kernel
theorem dX11_chained_17 : decode cX11_chained 17 = .ok (.getfield 176, 3) := by decide +kernel
theorem dX11_chained_20 : decode cX11_chained 20 = .ok (.if_icmp .ge 36, 3) := by decide +kernel
theorem dX11_chained_23 : decode cX11_chained 23 = .ok (.aload_n 0, 1) := by decide +kernel
theorem dX11_chained_24 : decode cX11_chained 24 = .ok (.getfield 33, 3) := by decide +kernel
theorem dX11_chained_27 : decode cX11_chained 27 = .ok (.getfield 218, 3) := by decide +kernel
theorem dX11_chained_30 : decode cX11_chained 30 = .ok (.aload_n 0, 1) := by decide +kernel
theorem dX11_chained_31 : decode cX11_chained 31 = .ok (.getfield 88, 3) := by decide +kernel
theorem dX11_chained_34 : decode cX11_chained 34 = .ok (.getfield 348, 3) := by decide +kernel
theorem dX11_chained_37 : decode cX11_chained 37 = .ok (.iload_n 3, 1) := by decide +kernel
theorem dX11_chained_38 : decode cX11_chained 38 = .ok (.iaload, 1) := by decide +kernel
theorem dX11_chained_39 : decode cX11_chained 39 = .ok (.aaload, 1) := by decide +kernel
theorem dX11_chained_40 : decode cX11_chained 40 = .ok (.getfield 221, 3) := by decide +kernel
theorem dX11_chained_43 : decode cX11_chained 43 = .ok (.iload_n 1, 1) := by decide +kernel
theorem dX11_chained_44 : decode cX11_chained 44 = .ok (.if_icmp .ne 6, 3) := by decide +kernel
theorem dX11_chained_47 : decode cX11_chained 47 = .ok (.iinc 2 1, 3) := by decide +kernel
