theorem dX12_wired_49 : decode cX12_wired 49 = .ok (.iinc 4 1, 3) := by decide +kernel
theorem dX12_wired_52 : decode cX12_wired 52 = .ok (.goto (-47), 3) := by decide +kernel
theorem dX12_wired_55 : decode cX12_wired 55 = .ok (.iload_n 3, 1) := by decide +kernel
theorem dX12_wired_56 : decode cX12_wired 56 = .ok (.ireturn, 1) := by decide +kernel
theorem dX12_pen_0 : decode cX12_pen 0 = .ok (.aload_n 0, 1) := by decide +kernel
theorem dX12_pen_1 : decode cX12_pen 1 = .ok (.iconst 0, 1) := by decide +kernel
theorem dX12_pen_2 : decode cX12_pen 2 = .ok (.putfield 94, 3) := by decide +kernel
theorem dX12_pen_5 : decode cX12_pen 5 = .ok (.aload_n 0, 1) := by decide +kernel
theorem dX12_pen_6 : decode cX12_pen 6 = .ok (.aload_n 0, 1) := by decide +kernel
theorem dX12_pen_7 : decode cX12_pen 7 = .ok (.iload_n 1, 1) := by decide +kernel
theorem dX12_pen_8 : decode cX12_pen 8 = .ok (.invokevirtual 355, 3) := by decide +kernel
theorem dX12_pen_11 : decode cX12_pen 11 = .ok (.ifCond .ne 7, 3) := by decide +kernel
theorem dX12_pen_14 : decode cX12_pen 14 = .ok (.iconst 1, 1) := by decide +kernel
theorem dX12_pen_15 : decode cX12_pen 15 = .ok (.goto 4, 3) := by decide +kernel
theorem dX12_pen_18 : decode cX12_pen 18 = .ok (.iconst 0, 1) := by decide +kernel
theorem dX12_pen_19 : decode cX12_pen 19 = .ok (.iconst 1, 1) := by decide +kernel
theorem dX12_pen_20 : decode cX12_pen 20 = .ok (.iconst 0, 1) := by decide +kernel
theorem dX12_pen_21 : decode cX12_pen 21 = .ok (.invokevirtual 167, 3) := by decide +kernel
theorem dX12_pen_24 : decode cX12_pen 24 = .ok (.ifCond .ne 27, 3) := by decide +kernel
theorem dX12_pen_27 : decode cX12_pen 27 = .ok (.aload_n 0, 1) := by decide +kernel
theorem dX12_pen_28 : decode cX12_pen 28 = .ok (.iload_n 2, 1) := by decide +kernel
theorem dX12_pen_29 : decode cX12_pen 29 = .ok (.iconst 0, 1) := by decide +kernel
theorem dX12_pen_30 : decode cX12_pen 30 = .ok (.bipush 6, 2) := by decide +kernel
theorem dX12_pen_32 : decode cX12_pen 32 = .ok (.invokestatic 128, 3) := by decide +kernel
theorem dX12_pen_35 : decode cX12_pen 35 = .ok (.ifCond .ne 7, 3) := by decide +kernel
theorem dX12_pen_38 : decode cX12_pen 38 = .ok (.iconst 1, 1) := by decide +kernel
theorem dX12_pen_39 : decode cX12_pen 39 = .ok (.goto 4, 3) := by decide +kernel
theorem dX12_pen_42 : decode cX12_pen 42 = .ok (.iconst 0, 1) := by decide +kernel
theorem dX12_pen_43 : decode cX12_pen 43 = .ok (.iconst 2, 1) := by decide +kernel
theorem dX12_pen_44 : decode cX12_pen 44 = .ok (.iconst 1, 1) := by decide +kernel
theorem dX12_pen_45 : decode cX12_pen 45 = .ok (.invokevirtual 167, 3) := by decide +kernel
theorem dX12_pen_48 : decode cX12_pen 48 = .ok (.ifCond .eq 5, 3) := by decide +kernel
theorem dX12_pen_51 : decode cX12_pen 51 = .ok (.iconst 0, 1) := by decide +kernel
theorem dX12_pen_52 : decode cX12_pen 52 = .ok (.ireturn, 1) := by decide +kernel
theorem dX12_pen_53 : decode cX12_pen 53 = .ok (.iload_n 2, 1) := by decide +kernel
theorem dX12_pen_54 : decode cX12_pen 54 = .ok (.tableswitch 82 0 4 #[34, 43, 52, 62, 72], 34) := by decide +kernel
theorem dX12_pen_88 : decode cX12_pen 88 = .ok (.aload_n 0, 1) := by decide +kernel
theorem dX12_pen_89 : decode cX12_pen 89 = .ok (.getfield 31, 3) := by decide +kernel
theorem dX12_pen_92 : decode cX12_pen 92 = .ok (.iload_n 1, 1) := by decide +kernel
theorem dX12_pen_93 : decode cX12_pen 93 = .ok (.aaload, 1) := by decide +kernel
theorem dX12_pen_94 : decode cX12_pen 94 = .ok (.iconst 0, 1) := by decide +kernel
theorem dX12_pen_95 : decode cX12_pen 95 = .ok (.iaload, 1) := by decide +kernel
theorem dX12_pen_96 : decode cX12_pen 96 = .ok (.ireturn, 1) := by decide +kernel
theorem dX12_pen_97 : decode cX12_pen 97 = .ok (.aload_n 0, 1) := by decide +kernel
theorem dX12_pen_98 : decode cX12_pen 98 = .ok (.getfield 67, 3) := by decide +kernel
theorem dX12_pen_101 : decode cX12_pen 101 = .ok (.iconst 0, 1) := by decide +kernel
theorem dX12_pen_102 : decode cX12_pen 102 = .ok (.iload_n 1, 1) := by decide +kernel
theorem dX12_pen_103 : decode cX12_pen 103 = .ok (.iadd, 1) := by decide +kernel
theorem dX12_pen_104 : decode cX12_pen 104 = .ok (.iaload, 1) := by decide +kernel
theorem dX12_pen_105 : decode cX12_pen 105 = .ok (.ireturn, 1) := by decide +kernel
theorem dX12_pen_106 : decode cX12_pen 106 = .ok (.aload_n 0, 1) := by decide +kernel
theorem dX12_pen_107 : decode cX12_pen 107 = .ok (.getfield 67, 3) := by decide +kernel
theorem dX12_pen_110 : decode cX12_pen 110 = .ok (.bipush 8, 2) := by decide +kernel
theorem dX12_pen_112 : decode cX12_pen 112 = .ok (.iload_n 1, 1) := by decide +kernel
theorem dX12_pen_113 : decode cX12_pen 113 = .ok (.iadd, 1) := by decide +kernel
theorem dX12_pen_114 : decode cX12_pen 114 = .ok (.iaload, 1) := by decide +kernel
theorem dX12_pen_115 : decode cX12_pen 115 = .ok (.ireturn, 1) := by decide +kernel
theorem dX12_pen_116 : decode cX12_pen 116 = .ok (.aload_n 0, 1) := by decide +kernel
theorem dX12_pen_117 : decode cX12_pen 117 = .ok (.getfield 67, 3) := by decide +kernel
theorem dX12_pen_120 : decode cX12_pen 120 = .ok (.bipush 16, 2) := by decide +kernel
theorem dX12_pen_122 : decode cX12_pen 122 = .ok (.iload_n 1, 1) := by decide +kernel
theorem dX12_pen_123 : decode cX12_pen 123 = .ok (.iadd, 1) := by decide +kernel
theorem dX12_pen_124 : decode cX12_pen 124 = .ok (.iaload, 1) := by decide +kernel
theorem dX12_pen_125 : decode cX12_pen 125 = .ok (.ireturn, 1) := by decide +kernel
theorem dX12_pen_126 : decode cX12_pen 126 = .ok (.aload_n 0, 1) := by decide +kernel
theorem dX12_pen_127 : decode cX12_pen 127 = .ok (.getfield 67, 3) := by decide +kernel
theorem dX12_pen_130 : decode cX12_pen 130 = .ok (.bipush 24, 2) := by decide +kernel
theorem dX12_pen_132 : decode cX12_pen 132 = .ok (.iload_n 1, 1) := by decide +kernel
theorem dX12_pen_133 : decode cX12_pen 133 = .ok (.iadd, 1) := by decide +kernel
theorem dX12_pen_134 : decode cX12_pen 134 = .ok (.iaload, 1) := by decide +kernel
theorem dX12_pen_135 : decode cX12_pen 135 = .ok (.ireturn, 1) := by decide +kernel
theorem dX12_pen_136 : decode cX12_pen 136 = .ok (.aload_n 0, 1) := by decide +kernel
theorem dX12_pen_137 : decode cX12_pen 137 = .ok (.iload_n 1, 1) := by decide +kernel
theorem dX12_pen_138 : decode cX12_pen 138 = .ok (.iload_n 2, 1) := by decide +kernel
theorem dX12_pen_139 : decode cX12_pen 139 = .ok (.iconst 5, 1) := by decide +kernel
theorem dX12_pen_140 : decode cX12_pen 140 = .ok (.isub, 1) := by decide +kernel
theorem dX12_pen_141 : decode cX12_pen 141 = .ok (.invokevirtual 358, 3) := by decide +kernel
theorem dX12_pen_144 : decode cX12_pen 144 = .ok (.ireturn, 1) := by decide +kernel
theorem dX12_wire_0 : decode cX12_wire 0 = .ok (.aload_n 0, 1) := by decide +kernel
theorem dX12_wire_1 : decode cX12_wire 1 = .ok (.iconst 0, 1) := by decide +kernel
theorem dX12_wire_2 : decode cX12_wire 2 = .ok (.putfield 94, 3) := by decide +kernel
theorem dX12_wire_5 : decode cX12_wire 5 = .ok (.aload_n 0, 1) := by decide +kernel
theorem dX12_wire_6 : decode cX12_wire 6 = .ok (.iload_n 1, 1) := by decide +kernel
theorem dX12_wire_7 : decode cX12_wire 7 = .ok (.iconst 0, 1) := by decide +kernel
theorem dX12_wire_8 : decode cX12_wire 8 = .ok (.aload_n 0, 1) := by decide +kernel
theorem dX12_wire_9 : decode cX12_wire 9 = .ok (.getfield 23, 3) := by decide +kernel
theorem dX12_wire_12 : decode cX12_wire 12 = .ok (.iconst 1, 1) := by decide +kernel
theorem dX12_wire_13 : decode cX12_wire 13 = .ok (.iaload, 1) := by decide +kernel
theorem dX12_wire_14 : decode cX12_wire 14 = .ok (.iconst 1, 1) := by decide +kernel
theorem dX12_wire_15 : decode cX12_wire 15 = .ok (.isub, 1) := by decide +kernel
theorem dX12_wire_16 : decode cX12_wire 16 = .ok (.invokestatic 128, 3) := by decide +kernel
theorem dX12_wire_19 : decode cX12_wire 19 = .ok (.ifCond .ne 7, 3) := by decide +kernel
theorem dX12_wire_22 : decode cX12_wire 22 = .ok (.iconst 1, 1) := by decide +kernel
theorem dX12_wire_23 : decode cX12_wire 23 = .ok (.goto 4, 3) := by decide +kernel
theorem dX12_wire_26 : decode cX12_wire 26 = .ok (.iconst 0, 1) := by decide +kernel
theorem dX12_wire_27 : decode cX12_wire 27 = .ok (.iconst 1, 1) := by decide +kernel
theorem dX12_wire_28 : decode cX12_wire 28 = .ok (.iconst 0, 1) := by decide +kernel
theorem dX12_wire_29 : decode cX12_wire 29 = .ok (.invokevirtual 167, 3) := by decide +kernel
theorem dX12_wire_32 : decode cX12_wire 32 = .ok (.ifCond .ne 26, 3) := by decide +kernel
theorem dX12_wire_35 : decode cX12_wire 35 = .ok (.aload_n 0, 1) := by decide +kernel
theorem dX12_wire_36 : decode cX12_wire 36 = .ok (.iload_n 2, 1) := by decide +kernel
theorem dX12_wire_37 : decode cX12_wire 37 = .ok (.iconst 0, 1) := by decide +kernel
theorem dX12_wire_38 : decode cX12_wire 38 = .ok (.iconst 1, 1) := by decide +kernel
theorem dX12_wire_39 : decode cX12_wire 39 = .ok (.invokestatic 128, 3) := by decide +kernel
theorem dX12_wire_42 : decode cX12_wire 42 = .ok (.ifCond .ne 7, 3) := by decide +kernel
theorem dX12_wire_45 : decode cX12_wire 45 = .ok (.iconst 1, 1) := by decide +kernel
theorem dX12_wire_46 : decode cX12_wire 46 = .ok (.goto 4, 3) := by decide +kernel
theorem dX12_wire_49 : decode cX12_wire 49 = .ok (.iconst 0, 1) := by decide +kernel
theorem dX12_wire_50 : decode cX12_wire 50 = .ok (.iconst 2, 1) := by decide +kernel
theorem dX12_wire_51 : decode cX12_wire 51 = .ok (.iconst 1, 1) := by decide +kernel
theorem dX12_wire_52 : decode cX12_wire 52 = .ok (.invokevirtual 167, 3) := by decide +kernel
theorem dX12_wire_55 : decode cX12_wire 55 = .ok (.ifCond .eq 5, 3) := by decide +kernel
theorem dX12_wire_58 : decode cX12_wire 58 = .ok (.iconst 0, 1) := by decide +kernel
theorem dX12_wire_59 : decode cX12_wire 59 = .ok (.ireturn, 1) := by decide +kernel
theorem dX12_wire_60 : decode cX12_wire 60 = .ok (.aload_n 0, 1) := by decide +kernel
theorem dX12_wire_61 : decode cX12_wire 61 = .ok (.getfield 37, 3) := by decide +kernel
theorem dX12_wire_64 : decode cX12_wire 64 = .ok (.iload_n 1, 1) := by decide +kernel
theorem dX12_wire_65 : decode cX12_wire 65 = .ok (.aaload, 1) := by decide +kernel
theorem dX12_wire_66 : decode cX12_wire 66 = .ok (.iload_n 2, 1) := by decide +kernel
theorem dX12_wire_67 : decode cX12_wire 67 = .ok (.iaload, 1) := by decide +kernel
theorem dX12_wire_68 : decode cX12_wire 68 = .ok (.ireturn, 1) := by decide +kernel
theorem dX12_record_0 : decode cX12_record 0 = .ok (.aload_n 0, 1) := by decide +kernel
theorem dX12_record_1 : decode cX12_record 1 = .ok (.iconst 0, 1) := by decide +kernel
theorem dX12_record_2 : decode cX12_record 2 = .ok (.putfield 94, 3) := by decide +kernel
theorem dX12_record_5 : decode cX12_record 5 = .ok (.aload_n 0, 1) := by decide +kernel
theorem dX12_record_6 : decode cX12_record 6 = .ok (.aload_n 0, 1) := by decide +kernel
theorem dX12_record_7 : decode cX12_record 7 = .ok (.iload_n 1, 1) := by decide +kernel
theorem dX12_record_8 : decode cX12_record 8 = .ok (.invokevirtual 355, 3) := by decide +kernel
theorem dX12_record_11 : decode cX12_record 11 = .ok (.ifCond .ne 7, 3) := by decide +kernel
theorem dX12_record_14 : decode cX12_record 14 = .ok (.iconst 1, 1) := by decide +kernel
theorem dX12_record_15 : decode cX12_record 15 = .ok (.goto 4, 3) := by decide +kernel
theorem dX12_record_18 : decode cX12_record 18 = .ok (.iconst 0, 1) := by decide +kernel
theorem dX12_record_19 : decode cX12_record 19 = .ok (.iconst 1, 1) := by decide +kernel
theorem dX12_record_20 : decode cX12_record 20 = .ok (.iconst 0, 1) := by decide +kernel
theorem dX12_record_21 : decode cX12_record 21 = .ok (.invokevirtual 167, 3) := by decide +kernel
theorem dX12_record_24 : decode cX12_record 24 = .ok (.ifCond .ne 36, 3) := by decide +kernel
theorem dX12_record_27 : decode cX12_record 27 = .ok (.aload_n 0, 1) := by decide +kernel
theorem dX12_record_28 : decode cX12_record 28 = .ok (.iload_n 2, 1) := by decide +kernel
theorem dX12_record_29 : decode cX12_record 29 = .ok (.iconst 0, 1) := by decide +kernel
theorem dX12_record_30 : decode cX12_record 30 = .ok (.aload_n 0, 1) := by decide +kernel
theorem dX12_record_31 : decode cX12_record 31 = .ok (.getfield 67, 3) := by decide +kernel
theorem dX12_record_34 : decode cX12_record 34 = .ok (.bipush 24, 2) := by decide +kernel
theorem dX12_record_36 : decode cX12_record 36 = .ok (.iload_n 1, 1) := by decide +kernel
theorem dX12_record_37 : decode cX12_record 37 = .ok (.iadd, 1) := by decide +kernel
theorem dX12_record_38 : decode cX12_record 38 = .ok (.iaload, 1) := by decide +kernel
theorem dX12_record_39 : decode cX12_record 39 = .ok (.iconst 1, 1) := by decide +kernel
theorem dX12_record_40 : decode cX12_record 40 = .ok (.isub, 1) := by decide +kernel
theorem dX12_record_41 : decode cX12_record 41 = .ok (.invokestatic 128, 3) := by decide +kernel
theorem dX12_record_44 : decode cX12_record 44 = .ok (.ifCond .ne 7, 3) := by decide +kernel
theorem dX12_record_47 : decode cX12_record 47 = .ok (.iconst 1, 1) := by decide +kernel
theorem dX12_record_48 : decode cX12_record 48 = .ok (.goto 4, 3) := by decide +kernel
theorem dX12_record_51 : decode cX12_record 51 = .ok (.iconst 0, 1) := by decide +kernel
theorem dX12_record_52 : decode cX12_record 52 = .ok (.iconst 2, 1) := by decide +kernel
theorem dX12_record_53 : decode cX12_record 53 = .ok (.iconst 3, 1) := by decide +kernel
theorem dX12_record_54 : decode cX12_record 54 = .ok (.invokevirtual 167, 3) := by decide +kernel
theorem dX12_record_57 : decode cX12_record 57 = .ok (.ifCond .eq 5, 3) := by decide +kernel
theorem dX12_record_60 : decode cX12_record 60 = .ok (.iconst 0, 1) := by decide +kernel
theorem dX12_record_61 : decode cX12_record 61 = .ok (.ireturn, 1) := by decide +kernel
theorem dX12_record_62 : decode cX12_record 62 = .ok (.aload_n 0, 1) := by decide +kernel
theorem dX12_record_63 : decode cX12_record 63 = .ok (.aload_n 0, 1) := by decide +kernel
theorem dX12_record_64 : decode cX12_record 64 = .ok (.getfield 67, 3) := by decide +kernel
theorem dX12_record_67 : decode cX12_record 67 = .ok (.iload_n 1, 1) := by decide +kernel
theorem dX12_record_68 : decode cX12_record 68 = .ok (.iload_n 2, 1) := by decide +kernel
theorem dX12_record_69 : decode cX12_record 69 = .ok (.invokevirtual 310, 3) := by decide +kernel
theorem dX12_record_72 : decode cX12_record 72 = .ok (.ireturn, 1) := by decide +kernel
theorem dX12_out_0 : decode cX12_out 0 = .ok (.aload_n 0, 1) := by decide +kernel
theorem dX12_out_1 : decode cX12_out 1 = .ok (.iconst 0, 1) := by decide +kernel
theorem dX12_out_2 : decode cX12_out 2 = .ok (.putfield 94, 3) := by decide +kernel
theorem dX12_out_5 : decode cX12_out 5 = .ok (.aload_n 0, 1) := by decide +kernel
theorem dX12_out_6 : decode cX12_out 6 = .ok (.aload_n 0, 1) := by decide +kernel
theorem dX12_out_7 : decode cX12_out 7 = .ok (.iload_n 1, 1) := by decide +kernel
theorem dX12_out_8 : decode cX12_out 8 = .ok (.invokevirtual 355, 3) := by decide +kernel
theorem dX12_out_11 : decode cX12_out 11 = .ok (.ifCond .ne 7, 3) := by decide +kernel
theorem dX12_out_14 : decode cX12_out 14 = .ok (.iconst 1, 1) := by decide +kernel
theorem dX12_out_15 : decode cX12_out 15 = .ok (.goto 4, 3) := by decide +kernel
theorem dX12_out_18 : decode cX12_out 18 = .ok (.iconst 0, 1) := by decide +kernel
theorem dX12_out_19 : decode cX12_out 19 = .ok (.iconst 1, 1) := by decide +kernel
theorem dX12_out_20 : decode cX12_out 20 = .ok (.iconst 0, 1) := by decide +kernel
theorem dX12_out_21 : decode cX12_out 21 = .ok (.invokevirtual 167, 3) := by decide +kernel
theorem dX12_out_24 : decode cX12_out 24 = .ok (.ifCond .ne 21, 3) := by decide +kernel
theorem dX12_out_27 : decode cX12_out 27 = .ok (.aload_n 0, 1) := by decide +kernel
theorem dX12_out_28 : decode cX12_out 28 = .ok (.aload_n 0, 1) := by decide +kernel
theorem dX12_out_29 : decode cX12_out 29 = .ok (.aload_n 0, 1) := by decide +kernel
theorem dX12_out_30 : decode cX12_out 30 = .ok (.getfield 67, 3) := by decide +kernel
theorem dX12_out_33 : decode cX12_out 33 = .ok (.iload_n 1, 1) := by decide +kernel
theorem dX12_out_34 : decode cX12_out 34 = .ok (.invokevirtual 286, 3) := by decide +kernel
theorem dX12_out_37 : decode cX12_out 37 = .ok (.iconst 2, 1) := by decide +kernel
theorem dX12_out_38 : decode cX12_out 38 = .ok (.iconst 4, 1) := by decide +kernel
theorem dX12_out_39 : decode cX12_out 39 = .ok (.invokevirtual 167, 3) := by decide +kernel
theorem dX12_out_42 : decode cX12_out 42 = .ok (.ifCond .eq 5, 3) := by decide +kernel
theorem dX12_out_45 : decode cX12_out 45 = .ok (.iconst 0, 1) := by decide +kernel
theorem dX12_out_46 : decode cX12_out 46 = .ok (.ireturn, 1) := by decide +kernel
theorem dX12_out_47 : decode cX12_out 47 = .ok (.aload_n 0, 1) := by decide +kernel
theorem dX12_out_48 : decode cX12_out 48 = .ok (.aload_n 0, 1) := by decide +kernel
theorem dX12_out_49 : decode cX12_out 49 = .ok (.getfield 67, 3) := by decide +kernel
theorem dX12_out_52 : decode cX12_out 52 = .ok (.iload_n 1, 1) := by decide +kernel
theorem dX12_out_53 : decode cX12_out 53 = .ok (.iload_n 2, 1) := by decide +kernel
theorem dX12_out_54 : decode cX12_out 54 = .ok (.invokevirtual 290, 3) := by decide +kernel
theorem dX12_out_57 : decode cX12_out 57 = .ok (.ireturn, 1) := by decide +kernel
theorem dX12_level_0 : decode cX12_level 0 = .ok (.aload_n 0, 1) := by decide +kernel
theorem dX12_level_1 : decode cX12_level 1 = .ok (.iconst 0, 1) := by decide +kernel
theorem dX12_level_2 : decode cX12_level 2 = .ok (.putfield 94, 3) := by decide +kernel
theorem dX12_level_5 : decode cX12_level 5 = .ok (.aload_n 0, 1) := by decide +kernel
theorem dX12_level_6 : decode cX12_level 6 = .ok (.aload_n 0, 1) := by decide +kernel
theorem dX12_level_7 : decode cX12_level 7 = .ok (.iload_n 1, 1) := by decide +kernel
theorem dX12_level_8 : decode cX12_level 8 = .ok (.invokevirtual 355, 3) := by decide +kernel
theorem dX12_level_11 : decode cX12_level 11 = .ok (.ifCond .ne 7, 3) := by decide +kernel
theorem dX12_level_14 : decode cX12_level 14 = .ok (.iconst 1, 1) := by decide +kernel
theorem dX12_level_15 : decode cX12_level 15 = .ok (.goto 4, 3) := by decide +kernel
theorem dX12_level_18 : decode cX12_level 18 = .ok (.iconst 0, 1) := by decide +kernel
theorem dX12_level_19 : decode cX12_level 19 = .ok (.iconst 1, 1) := by decide +kernel
theorem dX12_level_20 : decode cX12_level 20 = .ok (.iconst 0, 1) := by decide +kernel
theorem dX12_level_21 : decode cX12_level 21 = .ok (.invokevirtual 167, 3) := by decide +kernel
theorem dX12_level_24 : decode cX12_level 24 = .ok (.ifCond .eq 5, 3) := by decide +kernel
theorem dX12_level_27 : decode cX12_level 27 = .ok (.iconst 0, 1) := by decide +kernel
theorem dX12_level_28 : decode cX12_level 28 = .ok (.ireturn, 1) := by decide +kernel
theorem dX12_level_29 : decode cX12_level 29 = .ok (.aload_n 0, 1) := by decide +kernel
theorem dX12_level_30 : decode cX12_level 30 = .ok (.aload_n 0, 1) := by decide +kernel
theorem dX12_level_31 : decode cX12_level 31 = .ok (.getfield 67, 3) := by decide +kernel
theorem dX12_level_34 : decode cX12_level 34 = .ok (.iload_n 1, 1) := by decide +kernel
theorem dX12_level_35 : decode cX12_level 35 = .ok (.iload_n 2, 1) := by decide +kernel
theorem dX12_level_36 : decode cX12_level 36 = .ok (.invokevirtual 307, 3) := by decide +kernel
theorem dX12_level_39 : decode cX12_level 39 = .ok (.ireturn, 1) := by decide +kernel
theorem dX12_would_0 : decode cX12_would 0 = .ok (.aload_n 0, 1) := by decide +kernel
theorem dX12_would_1 : decode cX12_would 1 = .ok (.iconst 0, 1) := by decide +kernel
theorem dX12_would_2 : decode cX12_would 2 = .ok (.putfield 94, 3) := by decide +kernel
theorem dX12_would_5 : decode cX12_would 5 = .ok (.aload_n 0, 1) := by decide +kernel
theorem dX12_would_6 : decode cX12_would 6 = .ok (.iload_n 3, 1) := by decide +kernel
theorem dX12_would_7 : decode cX12_would 7 = .ok (.ifCond .lt 59, 3) := by decide +kernel
theorem dX12_would_10 : decode cX12_would 10 = .ok (.iload 4, 2) := by decide +kernel
theorem dX12_would_12 : decode cX12_would 12 = .ok (.iconst 0, 1) := by decide +kernel
theorem dX12_would_13 : decode cX12_would 13 = .ok (.bipush 24, 2) := by decide +kernel
theorem dX12_would_15 : decode cX12_would 15 = .ok (.invokestatic 128, 3) := by decide +kernel
theorem dX12_would_18 : decode cX12_would 18 = .ok (.ifCond .eq 48, 3) := by decide +kernel
theorem dX12_would_21 : decode cX12_would 21 = .ok (.iload 5, 2) := by decide +kernel
theorem dX12_would_23 : decode cX12_would 23 = .ok (.iconst 0, 1) := by decide +kernel
theorem dX12_would_24 : decode cX12_would 24 = .ok (.sipush 900, 3) := by decide +kernel
theorem dX12_would_27 : decode cX12_would 27 = .ok (.invokestatic 128, 3) := by decide +kernel
theorem dX12_would_30 : decode cX12_would 30 = .ok (.ifCond .eq 36, 3) := by decide +kernel
theorem dX12_would_33 : decode cX12_would 33 = .ok (.iload 6, 2) := by decide +kernel
theorem dX12_would_35 : decode cX12_would 35 = .ok (.iconst 0, 1) := by decide +kernel
theorem dX12_would_36 : decode cX12_would 36 = .ok (.bipush 7, 2) := by decide +kernel
theorem dX12_would_38 : decode cX12_would 38 = .ok (.invokestatic 128, 3) := by decide +kernel
theorem dX12_would_41 : decode cX12_would 41 = .ok (.ifCond .eq 25, 3) := by decide +kernel
theorem dX12_would_44 : decode cX12_would 44 = .ok (.iload 7, 2) := by decide +kernel
theorem dX12_would_46 : decode cX12_would 46 = .ok (.iconst 0, 1) := by decide +kernel
theorem dX12_would_47 : decode cX12_would 47 = .ok (.bipush 99, 2) := by decide +kernel
theorem dX12_would_49 : decode cX12_would 49 = .ok (.invokestatic 128, 3) := by decide +kernel
theorem dX12_would_52 : decode cX12_would 52 = .ok (.ifCond .eq 14, 3) := by decide +kernel
theorem dX12_would_55 : decode cX12_would 55 = .ok (.iload 8, 2) := by decide +kernel
theorem dX12_would_57 : decode cX12_would 57 = .ok (.iconst 0, 1) := by decide +kernel
theorem dX12_would_58 : decode cX12_would 58 = .ok (.bipush 99, 2) := by decide +kernel
theorem dX12_would_60 : decode cX12_would 60 = .ok (.invokestatic 128, 3) := by decide +kernel
theorem dX12_would_63 : decode cX12_would 63 = .ok (.ifCond .ne 7, 3) := by decide +kernel
theorem dX12_would_66 : decode cX12_would 66 = .ok (.iconst 1, 1) := by decide +kernel
theorem dX12_would_67 : decode cX12_would 67 = .ok (.goto 4, 3) := by decide +kernel
theorem dX12_would_70 : decode cX12_would 70 = .ok (.iconst 0, 1) := by decide +kernel
theorem dX12_would_71 : decode cX12_would 71 = .ok (.iconst 1, 1) := by decide +kernel
theorem dX12_would_72 : decode cX12_would 72 = .ok (.iconst 1, 1) := by decide +kernel
theorem dX12_would_73 : decode cX12_would 73 = .ok (.invokevirtual 167, 3) := by decide +kernel
theorem dX12_would_76 : decode cX12_would 76 = .ok (.ifCond .eq 5, 3) := by decide +kernel
theorem dX12_would_79 : decode cX12_would 79 = .ok (.iconst 0, 1) := by decide +kernel
theorem dX12_would_80 : decode cX12_would 80 = .ok (.ireturn, 1) := by decide +kernel
theorem dX12_would_81 : decode cX12_would 81 = .ok (.aload_n 0, 1) := by decide +kernel
theorem dX12_would_82 : decode cX12_would 82 = .ok (.iload_n 1, 1) := by decide +kernel
theorem dX12_would_83 : decode cX12_would 83 = .ok (.iload_n 2, 1) := by decide +kernel
theorem dX12_would_84 : decode cX12_would 84 = .ok (.iload_n 3, 1) := by decide +kernel
theorem dX12_would_85 : decode cX12_would 85 = .ok (.iload 4, 2) := by decide +kernel
theorem dX12_would_87 : decode cX12_would 87 = .ok (.iload 5, 2) := by decide +kernel
theorem dX12_would_89 : decode cX12_would 89 = .ok (.iload 6, 2) := by decide +kernel
theorem dX12_would_91 : decode cX12_would 91 = .ok (.iload 7, 2) := by decide +kernel
theorem dX12_would_93 : decode cX12_would 93 = .ok (.iload 8, 2) := by decide +kernel
theorem dX12_would_95 : decode cX12_would 95 = .ok (.invokevirtual 297, 3) := by decide +kernel
theorem dX12_would_98 : decode cX12_would 98 = .ok (.ireturn, 1) := by decide +kernel
theorem dX12_total_0 : decode cX12_total 0 = .ok (.aload_n 0, 1) := by decide +kernel
theorem dX12_total_1 : decode cX12_total 1 = .ok (.iconst 0, 1) := by decide +kernel
theorem dX12_total_2 : decode cX12_total 2 = .ok (.putfield 94, 3) := by decide +kernel
theorem dX12_total_5 : decode cX12_total 5 = .ok (.aload_n 0, 1) := by decide +kernel
theorem dX12_total_6 : decode cX12_total 6 = .ok (.aload_n 0, 1) := by decide +kernel
theorem dX12_total_7 : decode cX12_total 7 = .ok (.iload_n 1, 1) := by decide +kernel
theorem dX12_total_8 : decode cX12_total 8 = .ok (.invokevirtual 355, 3) := by decide +kernel
theorem dX12_total_11 : decode cX12_total 11 = .ok (.ifCond .ne 7, 3) := by decide +kernel
theorem dX12_total_14 : decode cX12_total 14 = .ok (.iconst 1, 1) := by decide +kernel
theorem dX12_total_15 : decode cX12_total 15 = .ok (.goto 4, 3) := by decide +kernel
theorem dX12_total_18 : decode cX12_total 18 = .ok (.iconst 0, 1) := by decide +kernel
theorem dX12_total_19 : decode cX12_total 19 = .ok (.iconst 1, 1) := by decide +kernel
theorem dX12_total_20 : decode cX12_total 20 = .ok (.iconst 0, 1) := by decide +kernel
theorem dX12_total_21 : decode cX12_total 21 = .ok (.invokevirtual 167, 3) := by decide +kernel
theorem dX12_total_24 : decode cX12_total 24 = .ok (.ifCond .eq 5, 3) := by decide +kernel
theorem dX12_total_27 : decode cX12_total 27 = .ok (.iconst 0, 1) := by decide +kernel
theorem dX12_total_28 : decode cX12_total 28 = .ok (.ireturn, 1) := by decide +kernel
theorem dX12_total_29 : decode cX12_total 29 = .ok (.lconst 0, 1) := by decide +kernel
theorem dX12_total_30 : decode cX12_total 30 = .ok (.lstore_n 2, 1) := by decide +kernel
theorem dX12_total_31 : decode cX12_total 31 = .ok (.iconst 0, 1) := by decide +kernel
theorem dX12_total_32 : decode cX12_total 32 = .ok (.istore 4, 2) := by decide +kernel
theorem dX12_total_34 : decode cX12_total 34 = .ok (.iload 4, 2) := by decide +kernel
theorem dX12_total_36 : decode cX12_total 36 = .ok (.aload_n 0, 1) := by decide +kernel
theorem dX12_total_37 : decode cX12_total 37 = .ok (.getfield 67, 3) := by decide +kernel
theorem dX12_total_40 : decode cX12_total 40 = .ok (.bipush 24, 2) := by decide +kernel
theorem dX12_total_42 : decode cX12_total 42 = .ok (.iload_n 1, 1) := by decide +kernel
theorem dX12_total_43 : decode cX12_total 43 = .ok (.iadd, 1) := by decide +kernel
theorem dX12_total_44 : decode cX12_total 44 = .ok (.iaload, 1) := by decide +kernel
theorem dX12_total_45 : decode cX12_total 45 = .ok (.if_icmp .ge 56, 3) := by decide +kernel
theorem dX12_total_48 : decode cX12_total 48 = .ok (.lload_n 2, 1) := by decide +kernel
theorem dX12_total_49 : decode cX12_total 49 = .ok (.aload_n 0, 1) := by decide +kernel
theorem dX12_total_50 : decode cX12_total 50 = .ok (.aload_n 0, 1) := by decide +kernel
theorem dX12_total_51 : decode cX12_total 51 = .ok (.getfield 67, 3) := by decide +kernel
theorem dX12_total_54 : decode cX12_total 54 = .ok (.iload_n 1, 1) := by decide +kernel
theorem dX12_total_55 : decode cX12_total 55 = .ok (.iload 4, 2) := by decide +kernel
theorem dX12_total_57 : decode cX12_total 57 = .ok (.invokevirtual 310, 3) := by decide +kernel
theorem dX12_total_60 : decode cX12_total 60 = .ok (.i2l, 1) := by decide +kernel
theorem dX12_total_61 : decode cX12_total 61 = .ok (.ladd, 1) := by decide +kernel
theorem dX12_total_62 : decode cX12_total 62 = .ok (.lstore_n 2, 1) := by decide +kernel
theorem dX12_total_63 : decode cX12_total 63 = .ok (.aload_n 0, 1) := by decide +kernel
theorem dX12_total_64 : decode cX12_total 64 = .ok (.lload_n 2, 1) := by decide +kernel
theorem dX12_total_65 : decode cX12_total 65 = .ok (.ldc2_w 280, 3) := by decide +kernel
theorem dX12_total_68 : decode cX12_total 68 = .ok (.lcmp, 1) := by decide +kernel
theorem dX12_total_69 : decode cX12_total 69 = .ok (.ifCond .gt 11, 3) := by decide +kernel
theorem dX12_total_72 : decode cX12_total 72 = .ok (.lload_n 2, 1) := by decide +kernel
theorem dX12_total_73 : decode cX12_total 73 = .ok (.ldc2_w 361, 3) := by decide +kernel
theorem dX12_total_76 : decode cX12_total 76 = .ok (.lcmp, 1) := by decide +kernel
theorem dX12_total_77 : decode cX12_total 77 = .ok (.ifCond .ge 7, 3) := by decide +kernel
theorem dX12_total_80 : decode cX12_total 80 = .ok (.iconst 1, 1) := by decide +kernel
theorem dX12_total_81 : decode cX12_total 81 = .ok (.goto 4, 3) := by decide +kernel
theorem dX12_total_84 : decode cX12_total 84 = .ok (.iconst 0, 1) := by decide +kernel
theorem dX12_total_85 : decode cX12_total 85 = .ok (.iconst 2, 1) := by decide +kernel
theorem dX12_total_86 : decode cX12_total 86 = .ok (.iconst 4, 1) := by decide +kernel
theorem dX12_total_87 : decode cX12_total 87 = .ok (.invokevirtual 167, 3) := by decide +kernel
theorem dX12_total_90 : decode cX12_total 90 = .ok (.ifCond .eq 5, 3) := by decide +kernel
theorem dX12_total_93 : decode cX12_total 93 = .ok (.iconst 0, 1) := by decide +kernel
theorem dX12_total_94 : decode cX12_total 94 = .ok (.ireturn, 1) := by decide +kernel
theorem dX12_total_95 : decode cX12_total 95 = .ok (.iinc 4 1, 3) := by decide +kernel
theorem dX12_total_98 : decode cX12_total 98 = .ok (.goto (-64), 3) := by decide +kernel
theorem dX12_total_101 : decode cX12_total 101 = .ok (.lload_n 2, 1) := by decide +kernel
theorem dX12_total_102 : decode cX12_total 102 = .ok (.l2i, 1) := by decide +kernel
theorem dX12_total_103 : decode cX12_total 103 = .ok (.ireturn, 1) := by decide +kernel
theorem dX12_realAt_0 : decode cX12_realAt 0 = .ok (.aload_n 0, 1) := by decide +kernel
theorem dX12_realAt_1 : decode cX12_realAt 1 = .ok (.getfield 67, 3) := by decide +kernel
theorem dX12_realAt_4 : decode cX12_realAt 4 = .ok (.sipush 227, 3) := by decide +kernel
theorem dX12_realAt_7 : decode cX12_realAt 7 = .ok (.iload_n 1, 1) := by decide +kernel
theorem dX12_realAt_8 : decode cX12_realAt 8 = .ok (.iload_n 2, 1) := by decide +kernel
theorem dX12_realAt_9 : decode cX12_realAt 9 = .ok (.invokestatic 301, 3) := by decide +kernel
theorem dX12_realAt_12 : decode cX12_realAt 12 = .ok (.iadd, 1) := by decide +kernel
theorem dX12_realAt_13 : decode cX12_realAt 13 = .ok (.iaload, 1) := by decide +kernel
theorem dX12_realAt_14 : decode cX12_realAt 14 = .ok (.istore_n 3, 1) := by decide +kernel
theorem dX12_realAt_15 : decode cX12_realAt 15 = .ok (.iload_n 3, 1) := by decide +kernel
theorem dX12_realAt_16 : decode cX12_realAt 16 = .ok (.iconst (-1), 1) := by decide +kernel
theorem dX12_realAt_17 : decode cX12_realAt 17 = .ok (.if_icmp .ne 7, 3) := by decide +kernel
theorem dX12_realAt_20 : decode cX12_realAt 20 = .ok (.dconst 0, 1) := by decide +kernel
theorem dX12_realAt_21 : decode cX12_realAt 21 = .ok (.goto 35, 3) := by decide +kernel
theorem dX12_realAt_24 : decode cX12_realAt 24 = .ok (.aload_n 0, 1) := by decide +kernel
theorem dX12_realAt_25 : decode cX12_realAt 25 = .ok (.getfield 31, 3) := by decide +kernel
theorem dX12_realAt_28 : decode cX12_realAt 28 = .ok (.iload_n 1, 1) := by decide +kernel
theorem dX12_realAt_29 : decode cX12_realAt 29 = .ok (.aaload, 1) := by decide +kernel
theorem dX12_realAt_30 : decode cX12_realAt 30 = .ok (.iconst 0, 1) := by decide +kernel
theorem dX12_realAt_31 : decode cX12_realAt 31 = .ok (.iaload, 1) := by decide +kernel
theorem dX12_realAt_32 : decode cX12_realAt 32 = .ok (.aload_n 0, 1) := by decide +kernel
theorem dX12_realAt_33 : decode cX12_realAt 33 = .ok (.getfield 67, 3) := by decide +kernel
theorem dX12_realAt_36 : decode cX12_realAt 36 = .ok (.bipush 35, 2) := by decide +kernel
theorem dX12_realAt_38 : decode cX12_realAt 38 = .ok (.iload_n 1, 1) := by decide +kernel
theorem dX12_realAt_39 : decode cX12_realAt 39 = .ok (.iload_n 2, 1) := by decide +kernel
theorem dX12_realAt_40 : decode cX12_realAt 40 = .ok (.invokestatic 301, 3) := by decide +kernel
theorem dX12_realAt_43 : decode cX12_realAt 43 = .ok (.iadd, 1) := by decide +kernel
theorem dX12_realAt_44 : decode cX12_realAt 44 = .ok (.iaload, 1) := by decide +kernel
theorem dX12_realAt_45 : decode cX12_realAt 45 = .ok (.iload_n 3, 1) := by decide +kernel
theorem dX12_realAt_46 : decode cX12_realAt 46 = .ok (.bipush 100, 2) := by decide +kernel
theorem dX12_realAt_48 : decode cX12_realAt 48 = .ok (.idiv, 1) := by decide +kernel
theorem dX12_realAt_49 : decode cX12_realAt 49 = .ok (.iload_n 3, 1) := by decide +kernel
theorem dX12_realAt_50 : decode cX12_realAt 50 = .ok (.bipush 100, 2) := by decide +kernel
theorem dX12_realAt_52 : decode cX12_realAt 52 = .ok (.irem, 1) := by decide +kernel
theorem dX12_realAt_53 : decode cX12_realAt 53 = .ok (.invokestatic 265, 3) := by decide +kernel
theorem dX12_realAt_56 : decode cX12_realAt 56 = .ok (.dreturn, 1) := by decide +kernel
theorem dX12_wholeAt_0 : decode cX12_wholeAt 0 = .ok (.aload_n 0, 1) := by decide +kernel
theorem dX12_wholeAt_1 : decode cX12_wholeAt 1 = .ok (.getfield 67, 3) := by decide +kernel
theorem dX12_wholeAt_4 : decode cX12_wholeAt 4 = .ok (.sipush 227, 3) := by decide +kernel
theorem dX12_wholeAt_7 : decode cX12_wholeAt 7 = .ok (.iload_n 1, 1) := by decide +kernel
theorem dX12_wholeAt_8 : decode cX12_wholeAt 8 = .ok (.iload_n 2, 1) := by decide +kernel
theorem dX12_wholeAt_9 : decode cX12_wholeAt 9 = .ok (.invokestatic 301, 3) := by decide +kernel
theorem dX12_wholeAt_12 : decode cX12_wholeAt 12 = .ok (.iadd, 1) := by decide +kernel
theorem dX12_wholeAt_13 : decode cX12_wholeAt 13 = .ok (.iaload, 1) := by decide +kernel
theorem dX12_wholeAt_14 : decode cX12_wholeAt 14 = .ok (.istore_n 3, 1) := by decide +kernel
theorem dX12_wholeAt_15 : decode cX12_wholeAt 15 = .ok (.iload_n 3, 1) := by decide +kernel
theorem dX12_wholeAt_16 : decode cX12_wholeAt 16 = .ok (.iconst (-1), 1) := by decide +kernel
theorem dX12_wholeAt_17 : decode cX12_wholeAt 17 = .ok (.if_icmp .ne 7, 3) := by decide +kernel
theorem dX12_wholeAt_20 : decode cX12_wholeAt 20 = .ok (.lconst 0, 1) := by decide +kernel
theorem dX12_wholeAt_21 : decode cX12_wholeAt 21 = .ok (.goto 35, 3) := by decide +kernel
theorem dX12_wholeAt_24 : decode cX12_wholeAt 24 = .ok (.aload_n 0, 1) := by decide +kernel
theorem dX12_wholeAt_25 : decode cX12_wholeAt 25 = .ok (.getfield 31, 3) := by decide +kernel
theorem dX12_wholeAt_28 : decode cX12_wholeAt 28 = .ok (.iload_n 1, 1) := by decide +kernel
theorem dX12_wholeAt_29 : decode cX12_wholeAt 29 = .ok (.aaload, 1) := by decide +kernel
theorem dX12_wholeAt_30 : decode cX12_wholeAt 30 = .ok (.iconst 0, 1) := by decide +kernel
theorem dX12_wholeAt_31 : decode cX12_wholeAt 31 = .ok (.iaload, 1) := by decide +kernel
theorem dX12_wholeAt_32 : decode cX12_wholeAt 32 = .ok (.aload_n 0, 1) := by decide +kernel
theorem dX12_wholeAt_33 : decode cX12_wholeAt 33 = .ok (.getfield 67, 3) := by decide +kernel
theorem dX12_wholeAt_36 : decode cX12_wholeAt 36 = .ok (.bipush 35, 2) := by decide +kernel
theorem dX12_wholeAt_38 : decode cX12_wholeAt 38 = .ok (.iload_n 1, 1) := by decide +kernel
theorem dX12_wholeAt_39 : decode cX12_wholeAt 39 = .ok (.iload_n 2, 1) := by decide +kernel
theorem dX12_wholeAt_40 : decode cX12_wholeAt 40 = .ok (.invokestatic 301, 3) := by decide +kernel
theorem dX12_wholeAt_43 : decode cX12_wholeAt 43 = .ok (.iadd, 1) := by decide +kernel
theorem dX12_wholeAt_44 : decode cX12_wholeAt 44 = .ok (.iaload, 1) := by decide +kernel
theorem dX12_wholeAt_45 : decode cX12_wholeAt 45 = .ok (.iload_n 3, 1) := by decide +kernel
theorem dX12_wholeAt_46 : decode cX12_wholeAt 46 = .ok (.bipush 100, 2) := by decide +kernel
theorem dX12_wholeAt_48 : decode cX12_wholeAt 48 = .ok (.idiv, 1) := by decide +kernel
theorem dX12_wholeAt_49 : decode cX12_wholeAt 49 = .ok (.iload_n 3, 1) := by decide +kernel
theorem dX12_wholeAt_50 : decode cX12_wholeAt 50 = .ok (.bipush 100, 2) := by decide +kernel
theorem dX12_wholeAt_52 : decode cX12_wholeAt 52 = .ok (.irem, 1) := by decide +kernel
theorem dX12_wholeAt_53 : decode cX12_wholeAt 53 = .ok (.invokestatic 269, 3) := by decide +kernel
theorem dX12_wholeAt_56 : decode cX12_wholeAt 56 = .ok (.lreturn, 1) := by decide +kernel
theorem dX12_isNumber_0 : decode cX12_isNumber 0 = .ok (.dload_n 0, 1) := by decide +kernel
theorem dX12_isNumber_1 : decode cX12_isNumber 1 = .ok (.dload_n 0, 1) := by decide +kernel
theorem dX12_isNumber_2 : decode cX12_isNumber 2 = .ok (.dcmp .l, 1) := by decide +kernel
theorem dX12_isNumber_3 : decode cX12_isNumber 3 = .ok (.ifCond .ne 7, 3) := by decide +kernel
theorem dX12_isNumber_6 : decode cX12_isNumber 6 = .ok (.iconst 1, 1) := by decide +kernel
theorem dX12_isNumber_7 : decode cX12_isNumber 7 = .ok (.goto 4, 3) := by decide +kernel
theorem dX12_isNumber_10 : decode cX12_isNumber 10 = .ok (.iconst 0, 1) := by decide +kernel
theorem dX12_isNumber_11 : decode cX12_isNumber 11 = .ok (.ireturn, 1) := by decide +kernel
theorem dX12_isEndless_0 : decode cX12_isEndless 0 = .ok (.dload_n 0, 1) := by decide +kernel
theorem dX12_isEndless_1 : decode cX12_isEndless 1 = .ok (.invokestatic 363, 3) := by decide +kernel
theorem dX12_isEndless_4 : decode cX12_isEndless 4 = .ok (.ifCond .eq 16, 3) := by decide +kernel
theorem dX12_isEndless_7 : decode cX12_isEndless 7 = .ok (.dload_n 0, 1) := by decide +kernel
theorem dX12_isEndless_8 : decode cX12_isEndless 8 = .ok (.dload_n 0, 1) := by decide +kernel
theorem dX12_isEndless_9 : decode cX12_isEndless 9 = .ok (.dsub, 1) := by decide +kernel
theorem dX12_isEndless_10 : decode cX12_isEndless 10 = .ok (.invokestatic 363, 3) := by decide +kernel
theorem dX12_isEndless_13 : decode cX12_isEndless 13 = .ok (.ifCond .ne 7, 3) := by decide +kernel
theorem dX12_isEndless_16 : decode cX12_isEndless 16 = .ok (.iconst 1, 1) := by decide +kernel
theorem dX12_isEndless_17 : decode cX12_isEndless 17 = .ok (.goto 4, 3) := by decide +kernel
theorem dX12_isEndless_20 : decode cX12_isEndless 20 = .ok (.iconst 0, 1) := by decide +kernel
theorem dX12_isEndless_21 : decode cX12_isEndless 21 = .ok (.ireturn, 1) := by decide +kernel
theorem dX12_strange_0 : decode cX12_strange 0 = .ok (.aload_n 0, 1) := by decide +kernel
theorem dX12_strange_1 : decode cX12_strange 1 = .ok (.iconst 0, 1) := by decide +kernel
theorem dX12_strange_2 : decode cX12_strange 2 = .ok (.putfield 94, 3) := by decide +kernel
theorem dX12_strange_5 : decode cX12_strange 5 = .ok (.aload_n 0, 1) := by decide +kernel
theorem dX12_strange_6 : decode cX12_strange 6 = .ok (.aload_n 0, 1) := by decide +kernel
theorem dX12_strange_7 : decode cX12_strange 7 = .ok (.iload_n 1, 1) := by decide +kernel
theorem dX12_strange_8 : decode cX12_strange 8 = .ok (.invokevirtual 355, 3) := by decide +kernel
theorem dX12_strange_11 : decode cX12_strange 11 = .ok (.ifCond .ne 7, 3) := by decide +kernel
theorem dX12_strange_14 : decode cX12_strange 14 = .ok (.iconst 1, 1) := by decide +kernel
theorem dX12_strange_15 : decode cX12_strange 15 = .ok (.goto 4, 3) := by decide +kernel
theorem dX12_strange_18 : decode cX12_strange 18 = .ok (.iconst 0, 1) := by decide +kernel
theorem dX12_strange_19 : decode cX12_strange 19 = .ok (.iconst 1, 1) := by decide +kernel
theorem dX12_strange_20 : decode cX12_strange 20 = .ok (.iconst 0, 1) := by decide +kernel
theorem dX12_strange_21 : decode cX12_strange 21 = .ok (.invokevirtual 167, 3) := by decide +kernel
theorem dX12_strange_24 : decode cX12_strange 24 = .ok (.ifCond .ne 26, 3) := by decide +kernel
theorem dX12_strange_27 : decode cX12_strange 27 = .ok (.aload_n 0, 1) := by decide +kernel
theorem dX12_strange_28 : decode cX12_strange 28 = .ok (.iload_n 2, 1) := by decide +kernel
theorem dX12_strange_29 : decode cX12_strange 29 = .ok (.iconst 0, 1) := by decide +kernel
theorem dX12_strange_30 : decode cX12_strange 30 = .ok (.iconst 1, 1) := by decide +kernel
theorem dX12_strange_31 : decode cX12_strange 31 = .ok (.invokestatic 128, 3) := by decide +kernel
theorem dX12_strange_34 : decode cX12_strange 34 = .ok (.ifCond .ne 7, 3) := by decide +kernel
theorem dX12_strange_37 : decode cX12_strange 37 = .ok (.iconst 1, 1) := by decide +kernel
theorem dX12_strange_38 : decode cX12_strange 38 = .ok (.goto 4, 3) := by decide +kernel
theorem dX12_strange_41 : decode cX12_strange 41 = .ok (.iconst 0, 1) := by decide +kernel
theorem dX12_strange_42 : decode cX12_strange 42 = .ok (.iconst 2, 1) := by decide +kernel
theorem dX12_strange_43 : decode cX12_strange 43 = .ok (.iconst 1, 1) := by decide +kernel
theorem dX12_strange_44 : decode cX12_strange 44 = .ok (.invokevirtual 167, 3) := by decide +kernel
theorem dX12_strange_47 : decode cX12_strange 47 = .ok (.ifCond .eq 5, 3) := by decide +kernel
theorem dX12_strange_50 : decode cX12_strange 50 = .ok (.iconst 0, 1) := by decide +kernel
theorem dX12_strange_51 : decode cX12_strange 51 = .ok (.ireturn, 1) := by decide +kernel
theorem dX12_strange_52 : decode cX12_strange 52 = .ok (.iconst 0, 1) := by decide +kernel
theorem dX12_strange_53 : decode cX12_strange 53 = .ok (.istore_n 3, 1) := by decide +kernel
theorem dX12_strange_54 : decode cX12_strange 54 = .ok (.iconst 0, 1) := by decide +kernel
theorem dX12_strange_55 : decode cX12_strange 55 = .ok (.istore 4, 2) := by decide +kernel
theorem dX12_strange_57 : decode cX12_strange 57 = .ok (.iload 4, 2) := by decide +kernel
theorem dX12_strange_59 : decode cX12_strange 59 = .ok (.aload_n 0, 1) := by decide +kernel
theorem dX12_strange_60 : decode cX12_strange 60 = .ok (.getfield 67, 3) := by decide +kernel
theorem dX12_strange_63 : decode cX12_strange 63 = .ok (.bipush 24, 2) := by decide +kernel
theorem dX12_strange_65 : decode cX12_strange 65 = .ok (.iload_n 1, 1) := by decide +kernel
theorem dX12_strange_66 : decode cX12_strange 66 = .ok (.iadd, 1) := by decide +kernel
theorem dX12_strange_67 : decode cX12_strange 67 = .ok (.iaload, 1) := by decide +kernel
theorem dX12_strange_68 : decode cX12_strange 68 = .ok (.if_icmp .ge 69, 3) := by decide +kernel
theorem dX12_strange_71 : decode cX12_strange 71 = .ok (.aload_n 0, 1) := by decide +kernel
theorem dX12_strange_72 : decode cX12_strange 72 = .ok (.getfield 31, 3) := by decide +kernel
theorem dX12_strange_75 : decode cX12_strange 75 = .ok (.iload_n 1, 1) := by decide +kernel
theorem dX12_strange_76 : decode cX12_strange 76 = .ok (.aaload, 1) := by decide +kernel
theorem dX12_strange_77 : decode cX12_strange 77 = .ok (.iconst 0, 1) := by decide +kernel
theorem dX12_strange_78 : decode cX12_strange 78 = .ok (.iaload, 1) := by decide +kernel
theorem dX12_strange_79 : decode cX12_strange 79 = .ok (.invokestatic 262, 3) := by decide +kernel
theorem dX12_strange_82 : decode cX12_strange 82 = .ok (.ifCond .eq 55, 3) := by decide +kernel
theorem dX12_strange_85 : decode cX12_strange 85 = .ok (.iload_n 3, 1) := by decide +kernel
theorem dX12_strange_86 : decode cX12_strange 86 = .ok (.iload_n 2, 1) := by decide +kernel
theorem dX12_strange_87 : decode cX12_strange 87 = .ok (.ifCond .ne 24, 3) := by decide +kernel
theorem dX12_strange_90 : decode cX12_strange 90 = .ok (.aload_n 0, 1) := by decide +kernel
theorem dX12_strange_91 : decode cX12_strange 91 = .ok (.iload_n 1, 1) := by decide +kernel
theorem dX12_strange_92 : decode cX12_strange 92 = .ok (.iload 4, 2) := by decide +kernel
theorem dX12_strange_94 : decode cX12_strange 94 = .ok (.invokevirtual 367, 3) := by decide +kernel
theorem dX12_strange_97 : decode cX12_strange 97 = .ok (.invokestatic 363, 3) := by decide +kernel
theorem dX12_strange_100 : decode cX12_strange 100 = .ok (.ifCond .eq 7, 3) := by decide +kernel
theorem dX12_strange_103 : decode cX12_strange 103 = .ok (.iconst 0, 1) := by decide +kernel
theorem dX12_strange_104 : decode cX12_strange 104 = .ok (.goto 25, 3) := by decide +kernel
theorem dX12_strange_107 : decode cX12_strange 107 = .ok (.iconst 1, 1) := by decide +kernel
theorem dX12_strange_108 : decode cX12_strange 108 = .ok (.goto 21, 3) := by decide +kernel
theorem dX12_strange_111 : decode cX12_strange 111 = .ok (.aload_n 0, 1) := by decide +kernel
theorem dX12_strange_112 : decode cX12_strange 112 = .ok (.iload_n 1, 1) := by decide +kernel
theorem dX12_strange_113 : decode cX12_strange 113 = .ok (.iload 4, 2) := by decide +kernel
theorem dX12_strange_115 : decode cX12_strange 115 = .ok (.invokevirtual 367, 3) := by decide +kernel
theorem dX12_strange_118 : decode cX12_strange 118 = .ok (.invokestatic 371, 3) := by decide +kernel
theorem dX12_strange_121 : decode cX12_strange 121 = .ok (.ifCond .eq 7, 3) := by decide +kernel
theorem dX12_strange_124 : decode cX12_strange 124 = .ok (.iconst 1, 1) := by decide +kernel
theorem dX12_strange_125 : decode cX12_strange 125 = .ok (.goto 4, 3) := by decide +kernel
theorem dX12_strange_128 : decode cX12_strange 128 = .ok (.iconst 0, 1) := by decide +kernel
theorem dX12_strange_129 : decode cX12_strange 129 = .ok (.iadd, 1) := by decide +kernel
theorem dX12_strange_130 : decode cX12_strange 130 = .ok (.istore_n 3, 1) := by decide +kernel
theorem dX12_strange_131 : decode cX12_strange 131 = .ok (.iinc 4 1, 3) := by decide +kernel
theorem dX12_strange_134 : decode cX12_strange 134 = .ok (.goto (-77), 3) := by decide +kernel
theorem dX12_strange_137 : decode cX12_strange 137 = .ok (.iload_n 3, 1) := by decide +kernel
theorem dX12_strange_138 : decode cX12_strange 138 = .ok (.ireturn, 1) := by decide +kernel
theorem dX12_isMore_0 : decode cX12_isMore 0 = .ok (.aload_n 0, 1) := by decide +kernel
theorem dX12_isMore_1 : decode cX12_isMore 1 = .ok (.getfield 31, 3) := by decide +kernel
theorem dX12_isMore_4 : decode cX12_isMore 4 = .ok (.iload_n 1, 1) := by decide +kernel
theorem dX12_isMore_5 : decode cX12_isMore 5 = .ok (.aaload, 1) := by decide +kernel
theorem dX12_isMore_6 : decode cX12_isMore 6 = .ok (.iconst 0, 1) := by decide +kernel
theorem dX12_isMore_7 : decode cX12_isMore 7 = .ok (.iaload, 1) := by decide +kernel
theorem dX12_isMore_8 : decode cX12_isMore 8 = .ok (.invokestatic 262, 3) := by decide +kernel
theorem dX12_isMore_11 : decode cX12_isMore 11 = .ok (.ifCond .eq 27, 3) := by decide +kernel
theorem dX12_isMore_14 : decode cX12_isMore 14 = .ok (.aload_n 0, 1) := by decide +kernel
theorem dX12_isMore_15 : decode cX12_isMore 15 = .ok (.iload_n 1, 1) := by decide +kernel
theorem dX12_isMore_16 : decode cX12_isMore 16 = .ok (.iload_n 2, 1) := by decide +kernel
theorem dX12_isMore_17 : decode cX12_isMore 17 = .ok (.invokevirtual 367, 3) := by decide +kernel
theorem dX12_isMore_20 : decode cX12_isMore 20 = .ok (.aload_n 0, 1) := by decide +kernel
theorem dX12_isMore_21 : decode cX12_isMore 21 = .ok (.iload_n 1, 1) := by decide +kernel
theorem dX12_isMore_22 : decode cX12_isMore 22 = .ok (.iload_n 3, 1) := by decide +kernel
theorem dX12_isMore_23 : decode cX12_isMore 23 = .ok (.invokevirtual 367, 3) := by decide +kernel
theorem dX12_isMore_26 : decode cX12_isMore 26 = .ok (.dcmp .l, 1) := by decide +kernel
theorem dX12_isMore_27 : decode cX12_isMore 27 = .ok (.ifCond .le 7, 3) := by decide +kernel
theorem dX12_isMore_30 : decode cX12_isMore 30 = .ok (.iconst 1, 1) := by decide +kernel
theorem dX12_isMore_31 : decode cX12_isMore 31 = .ok (.goto 28, 3) := by decide +kernel
theorem dX12_isMore_34 : decode cX12_isMore 34 = .ok (.iconst 0, 1) := by decide +kernel
theorem dX12_isMore_35 : decode cX12_isMore 35 = .ok (.goto 24, 3) := by decide +kernel
theorem dX12_isMore_38 : decode cX12_isMore 38 = .ok (.aload_n 0, 1) := by decide +kernel
theorem dX12_isMore_39 : decode cX12_isMore 39 = .ok (.iload_n 1, 1) := by decide +kernel
theorem dX12_isMore_40 : decode cX12_isMore 40 = .ok (.iload_n 2, 1) := by decide +kernel
theorem dX12_isMore_41 : decode cX12_isMore 41 = .ok (.invokevirtual 374, 3) := by decide +kernel
theorem dX12_isMore_44 : decode cX12_isMore 44 = .ok (.aload_n 0, 1) := by decide +kernel
theorem dX12_isMore_45 : decode cX12_isMore 45 = .ok (.iload_n 1, 1) := by decide +kernel
theorem dX12_isMore_46 : decode cX12_isMore 46 = .ok (.iload_n 3, 1) := by decide +kernel
theorem dX12_isMore_47 : decode cX12_isMore 47 = .ok (.invokevirtual 374, 3) := by decide +kernel
theorem dX12_isMore_50 : decode cX12_isMore 50 = .ok (.lcmp, 1) := by decide +kernel
theorem dX12_isMore_51 : decode cX12_isMore 51 = .ok (.ifCond .le 7, 3) := by decide +kernel
theorem dX12_isMore_54 : decode cX12_isMore 54 = .ok (.iconst 1, 1) := by decide +kernel
theorem dX12_isMore_55 : decode cX12_isMore 55 = .ok (.goto 4, 3) := by decide +kernel
theorem dX12_isMore_58 : decode cX12_isMore 58 = .ok (.iconst 0, 1) := by decide +kernel
theorem dX12_isMore_59 : decode cX12_isMore 59 = .ok (.ireturn, 1) := by decide +kernel
theorem dX12_extreme_0 : decode cX12_extreme 0 = .ok (.aload_n 0, 1) := by decide +kernel
theorem dX12_extreme_1 : decode cX12_extreme 1 = .ok (.iconst 0, 1) := by decide +kernel
theorem dX12_extreme_2 : decode cX12_extreme 2 = .ok (.putfield 94, 3) := by decide +kernel
theorem dX12_extreme_5 : decode cX12_extreme 5 = .ok (.aload_n 0, 1) := by decide +kernel
theorem dX12_extreme_6 : decode cX12_extreme 6 = .ok (.aload_n 0, 1) := by decide +kernel
theorem dX12_extreme_7 : decode cX12_extreme 7 = .ok (.iload_n 1, 1) := by decide +kernel
theorem dX12_extreme_8 : decode cX12_extreme 8 = .ok (.invokevirtual 355, 3) := by decide +kernel
theorem dX12_extreme_11 : decode cX12_extreme 11 = .ok (.ifCond .ne 7, 3) := by decide +kernel
theorem dX12_extreme_14 : decode cX12_extreme 14 = .ok (.iconst 1, 1) := by decide +kernel
theorem dX12_extreme_15 : decode cX12_extreme 15 = .ok (.goto 4, 3) := by decide +kernel
theorem dX12_extreme_18 : decode cX12_extreme 18 = .ok (.iconst 0, 1) := by decide +kernel
theorem dX12_extreme_19 : decode cX12_extreme 19 = .ok (.iconst 1, 1) := by decide +kernel
theorem dX12_extreme_20 : decode cX12_extreme 20 = .ok (.iconst 0, 1) := by decide +kernel
theorem dX12_extreme_21 : decode cX12_extreme 21 = .ok (.invokevirtual 167, 3) := by decide +kernel
theorem dX12_extreme_24 : decode cX12_extreme 24 = .ok (.ifCond .ne 26, 3) := by decide +kernel
theorem dX12_extreme_27 : decode cX12_extreme 27 = .ok (.aload_n 0, 1) := by decide +kernel
theorem dX12_extreme_28 : decode cX12_extreme 28 = .ok (.iload_n 2, 1) := by decide +kernel
theorem dX12_extreme_29 : decode cX12_extreme 29 = .ok (.iconst 0, 1) := by decide +kernel
theorem dX12_extreme_30 : decode cX12_extreme 30 = .ok (.iconst 1, 1) := by decide +kernel
theorem dX12_extreme_31 : decode cX12_extreme 31 = .ok (.invokestatic 128, 3) := by decide +kernel
theorem dX12_extreme_34 : decode cX12_extreme 34 = .ok (.ifCond .ne 7, 3) := by decide +kernel
theorem dX12_extreme_37 : decode cX12_extreme 37 = .ok (.iconst 1, 1) := by decide +kernel
theorem dX12_extreme_38 : decode cX12_extreme 38 = .ok (.goto 4, 3) := by decide +kernel
theorem dX12_extreme_41 : decode cX12_extreme 41 = .ok (.iconst 0, 1) := by decide +kernel
theorem dX12_extreme_42 : decode cX12_extreme 42 = .ok (.iconst 2, 1) := by decide +kernel
theorem dX12_extreme_43 : decode cX12_extreme 43 = .ok (.iconst 1, 1) := by decide +kernel
theorem dX12_extreme_44 : decode cX12_extreme 44 = .ok (.invokevirtual 167, 3) := by decide +kernel
theorem dX12_extreme_47 : decode cX12_extreme 47 = .ok (.ifCond .eq 5, 3) := by decide +kernel
theorem dX12_extreme_50 : decode cX12_extreme 50 = .ok (.iconst 0, 1) := by decide +kernel
theorem dX12_extreme_51 : decode cX12_extreme 51 = .ok (.ireturn, 1) := by decide +kernel
theorem dX12_extreme_52 : decode cX12_extreme 52 = .ok (.iconst (-1), 1) := by decide +kernel
theorem dX12_extreme_53 : decode cX12_extreme 53 = .ok (.istore_n 3, 1) := by decide +kernel
theorem dX12_extreme_54 : decode cX12_extreme 54 = .ok (.iconst 0, 1) := by decide +kernel
theorem dX12_extreme_55 : decode cX12_extreme 55 = .ok (.istore 4, 2) := by decide +kernel
theorem dX12_extreme_57 : decode cX12_extreme 57 = .ok (.iload 4, 2) := by decide +kernel
theorem dX12_extreme_59 : decode cX12_extreme 59 = .ok (.aload_n 0, 1) := by decide +kernel
theorem dX12_extreme_60 : decode cX12_extreme 60 = .ok (.getfield 67, 3) := by decide +kernel
theorem dX12_extreme_63 : decode cX12_extreme 63 = .ok (.bipush 24, 2) := by decide +kernel
theorem dX12_extreme_65 : decode cX12_extreme 65 = .ok (.iload_n 1, 1) := by decide +kernel
theorem dX12_extreme_66 : decode cX12_extreme 66 = .ok (.iadd, 1) := by decide +kernel
theorem dX12_extreme_67 : decode cX12_extreme 67 = .ok (.iaload, 1) := by decide +kernel
theorem dX12_extreme_68 : decode cX12_extreme 68 = .ok (.if_icmp .ge 80, 3) := by decide +kernel
theorem dX12_extreme_71 : decode cX12_extreme 71 = .ok (.aload_n 0, 1) := by decide +kernel
theorem dX12_extreme_72 : decode cX12_extreme 72 = .ok (.getfield 31, 3) := by decide +kernel
theorem dX12_extreme_75 : decode cX12_extreme 75 = .ok (.iload_n 1, 1) := by decide +kernel
theorem dX12_extreme_76 : decode cX12_extreme 76 = .ok (.aaload, 1) := by decide +kernel
theorem dX12_extreme_77 : decode cX12_extreme 77 = .ok (.iconst 0, 1) := by decide +kernel
theorem dX12_extreme_78 : decode cX12_extreme 78 = .ok (.iaload, 1) := by decide +kernel
theorem dX12_extreme_79 : decode cX12_extreme 79 = .ok (.invokestatic 262, 3) := by decide +kernel
theorem dX12_extreme_82 : decode cX12_extreme 82 = .ok (.ifCond .eq 19, 3) := by decide +kernel
theorem dX12_extreme_85 : decode cX12_extreme 85 = .ok (.aload_n 0, 1) := by decide +kernel
theorem dX12_extreme_86 : decode cX12_extreme 86 = .ok (.iload_n 1, 1) := by decide +kernel
theorem dX12_extreme_87 : decode cX12_extreme 87 = .ok (.iload 4, 2) := by decide +kernel
theorem dX12_extreme_89 : decode cX12_extreme 89 = .ok (.invokevirtual 367, 3) := by decide +kernel
theorem dX12_extreme_92 : decode cX12_extreme 92 = .ok (.invokestatic 363, 3) := by decide +kernel
theorem dX12_extreme_95 : decode cX12_extreme 95 = .ok (.ifCond .ne 6, 3) := by decide +kernel
theorem dX12_extreme_98 : decode cX12_extreme 98 = .ok (.goto 44, 3) := by decide +kernel
theorem dX12_extreme_101 : decode cX12_extreme 101 = .ok (.iload_n 3, 1) := by decide +kernel
theorem dX12_extreme_102 : decode cX12_extreme 102 = .ok (.iconst (-1), 1) := by decide +kernel
theorem dX12_extreme_103 : decode cX12_extreme 103 = .ok (.if_icmp .eq 32, 3) := by decide +kernel
theorem dX12_extreme_106 : decode cX12_extreme 106 = .ok (.iload_n 2, 1) := by decide +kernel
theorem dX12_extreme_107 : decode cX12_extreme 107 = .ok (.ifCond .ne 17, 3) := by decide +kernel
theorem dX12_extreme_110 : decode cX12_extreme 110 = .ok (.aload_n 0, 1) := by decide +kernel
theorem dX12_extreme_111 : decode cX12_extreme 111 = .ok (.iload_n 1, 1) := by decide +kernel
theorem dX12_extreme_112 : decode cX12_extreme 112 = .ok (.iload 4, 2) := by decide +kernel
theorem dX12_extreme_114 : decode cX12_extreme 114 = .ok (.iload_n 3, 1) := by decide +kernel
theorem dX12_extreme_115 : decode cX12_extreme 115 = .ok (.invokevirtual 378, 3) := by decide +kernel
theorem dX12_extreme_118 : decode cX12_extreme 118 = .ok (.ifCond .eq 22, 3) := by decide +kernel
theorem dX12_extreme_121 : decode cX12_extreme 121 = .ok (.goto 14, 3) := by decide +kernel
theorem dX12_extreme_124 : decode cX12_extreme 124 = .ok (.aload_n 0, 1) := by decide +kernel
theorem dX12_extreme_125 : decode cX12_extreme 125 = .ok (.iload_n 1, 1) := by decide +kernel
theorem dX12_extreme_126 : decode cX12_extreme 126 = .ok (.iload_n 3, 1) := by decide +kernel
theorem dX12_extreme_127 : decode cX12_extreme 127 = .ok (.iload 4, 2) := by decide +kernel
theorem dX12_extreme_129 : decode cX12_extreme 129 = .ok (.invokevirtual 378, 3) := by decide +kernel
theorem dX12_extreme_132 : decode cX12_extreme 132 = .ok (.ifCond .eq 8, 3) := by decide +kernel
theorem dX12_extreme_135 : decode cX12_extreme 135 = .ok (.iload 4, 2) := by decide +kernel
theorem dX12_extreme_137 : decode cX12_extreme 137 = .ok (.goto 4, 3) := by decide +kernel
theorem dX12_extreme_140 : decode cX12_extreme 140 = .ok (.iload_n 3, 1) := by decide +kernel
theorem dX12_extreme_141 : decode cX12_extreme 141 = .ok (.istore_n 3, 1) := by decide +kernel
theorem dX12_extreme_142 : decode cX12_extreme 142 = .ok (.iinc 4 1, 3) := by decide +kernel
theorem dX12_extreme_145 : decode cX12_extreme 145 = .ok (.goto (-88), 3) := by decide +kernel
theorem dX12_extreme_148 : decode cX12_extreme 148 = .ok (.iload_n 3, 1) := by decide +kernel
theorem dX12_extreme_149 : decode cX12_extreme 149 = .ok (.ireturn, 1) := by decide +kernel
theorem dX12_chainJams_0 : decode cX12_chainJams 0 = .ok (.iconst 0, 1) := by decide +kernel
theorem dX12_chainJams_1 : decode cX12_chainJams 1 = .ok (.istore_n 1, 1) := by decide +kernel
theorem dX12_chainJams_2 : decode cX12_chainJams 2 = .ok (.iload_n 1, 1) := by decide +kernel
theorem dX12_chainJams_3 : decode cX12_chainJams 3 = .ok (.aload_n 0, 1) := by decide +kernel
theorem dX12_chainJams_4 : decode cX12_chainJams 4 = .ok (.getfield 190, 3) := by decide +kernel
theorem dX12_chainJams_7 : decode cX12_chainJams 7 = .ok (.if_icmp .ge 28, 3) := by decide +kernel
theorem dX12_chainJams_10 : decode cX12_chainJams 10 = .ok (.aload_n 0, 1) := by decide +kernel
theorem dX12_chainJams_11 : decode cX12_chainJams 11 = .ok (.aload_n 0, 1) := by decide +kernel
theorem dX12_chainJams_12 : decode cX12_chainJams 12 = .ok (.getfield 67, 3) := by decide +kernel
theorem dX12_chainJams_15 : decode cX12_chainJams 15 = .ok (.aload_n 0, 1) := by decide +kernel
theorem dX12_chainJams_16 : decode cX12_chainJams 16 = .ok (.getfield 58, 3) := by decide +kernel
theorem dX12_chainJams_19 : decode cX12_chainJams 19 = .ok (.iload_n 1, 1) := by decide +kernel
theorem dX12_chainJams_20 : decode cX12_chainJams 20 = .ok (.iaload, 1) := by decide +kernel
theorem dX12_chainJams_21 : decode cX12_chainJams 21 = .ok (.invokevirtual 286, 3) := by decide +kernel
theorem dX12_chainJams_24 : decode cX12_chainJams 24 = .ok (.ifCond .eq 5, 3) := by decide +kernel
theorem dX12_chainJams_27 : decode cX12_chainJams 27 = .ok (.iconst 1, 1) := by decide +kernel
theorem dX12_chainJams_28 : decode cX12_chainJams 28 = .ok (.ireturn, 1) := by decide +kernel
theorem dX12_chainJams_29 : decode cX12_chainJams 29 = .ok (.iinc 1 1, 3) := by decide +kernel
theorem dX12_chainJams_32 : decode cX12_chainJams 32 = .ok (.goto (-30), 3) := by decide +kernel
theorem dX12_chainJams_35 : decode cX12_chainJams 35 = .ok (.iconst 0, 1) := by decide +kernel
theorem dX12_chainJams_36 : decode cX12_chainJams 36 = .ok (.ireturn, 1) := by decide +kernel
theorem dX12_throughOf_0 : decode cX12_throughOf 0 = .ok (.iload_n 1, 1) := by decide +kernel
theorem dX12_throughOf_1 : decode cX12_throughOf 1 = .ok (.istore_n 2, 1) := by decide +kernel
theorem dX12_throughOf_2 : decode cX12_throughOf 2 = .ok (.iconst 0, 1) := by decide +kernel
theorem dX12_throughOf_3 : decode cX12_throughOf 3 = .ok (.istore_n 3, 1) := by decide +kernel
theorem dX12_throughOf_4 : decode cX12_throughOf 4 = .ok (.iload_n 3, 1) := by decide +kernel
theorem dX12_throughOf_5 : decode cX12_throughOf 5 = .ok (.aload_n 0, 1) := by decide +kernel
theorem dX12_throughOf_6 : decode cX12_throughOf 6 = .ok (.getfield 190, 3) := by decide +kernel
theorem dX12_throughOf_9 : decode cX12_throughOf 9 = .ok (.if_icmp .ge 25, 3) := by decide +kernel
theorem dX12_throughOf_12 : decode cX12_throughOf 12 = .ok (.aload_n 0, 1) := by decide +kernel
theorem dX12_throughOf_13 : decode cX12_throughOf 13 = .ok (.aload_n 0, 1) := by decide +kernel
theorem dX12_throughOf_14 : decode cX12_throughOf 14 = .ok (.getfield 67, 3) := by decide +kernel
theorem dX12_throughOf_17 : decode cX12_throughOf 17 = .ok (.aload_n 0, 1) := by decide +kernel
theorem dX12_throughOf_18 : decode cX12_throughOf 18 = .ok (.getfield 58, 3) := by decide +kernel
theorem dX12_throughOf_21 : decode cX12_throughOf 21 = .ok (.iload_n 3, 1) := by decide +kernel
theorem dX12_throughOf_22 : decode cX12_throughOf 22 = .ok (.iaload, 1) := by decide +kernel
theorem dX12_throughOf_23 : decode cX12_throughOf 23 = .ok (.iload_n 2, 1) := by decide +kernel
theorem dX12_throughOf_24 : decode cX12_throughOf 24 = .ok (.invokevirtual 290, 3) := by decide +kernel
theorem dX12_throughOf_27 : decode cX12_throughOf 27 = .ok (.istore_n 2, 1) := by decide +kernel
theorem dX12_throughOf_28 : decode cX12_throughOf 28 = .ok (.iinc 3 1, 3) := by decide +kernel
theorem dX12_throughOf_31 : decode cX12_throughOf 31 = .ok (.goto (-27), 3) := by decide +kernel
theorem dX12_throughOf_34 : decode cX12_throughOf 34 = .ok (.iload_n 2, 1) := by decide +kernel
theorem dX12_throughOf_35 : decode cX12_throughOf 35 = .ok (.ireturn, 1) := by decide +kernel
theorem dX12_through_0 : decode cX12_through 0 = .ok (.aload_n 0, 1) := by decide +kernel
theorem dX12_through_1 : decode cX12_through 1 = .ok (.iconst 0, 1) := by decide +kernel
theorem dX12_through_2 : decode cX12_through 2 = .ok (.putfield 94, 3) := by decide +kernel
theorem dX12_through_5 : decode cX12_through 5 = .ok (.aload_n 0, 1) := by decide +kernel
theorem dX12_through_6 : decode cX12_through 6 = .ok (.aload_n 0, 1) := by decide +kernel
theorem dX12_through_7 : decode cX12_through 7 = .ok (.invokevirtual 381, 3) := by decide +kernel
theorem dX12_through_10 : decode cX12_through 10 = .ok (.iconst 1, 1) := by decide +kernel
theorem dX12_through_11 : decode cX12_through 11 = .ok (.iconst 4, 1) := by decide +kernel
theorem dX12_through_12 : decode cX12_through 12 = .ok (.invokevirtual 167, 3) := by decide +kernel
theorem dX12_through_15 : decode cX12_through 15 = .ok (.ifCond .eq 5, 3) := by decide +kernel
theorem dX12_through_18 : decode cX12_through 18 = .ok (.iconst 0, 1) := by decide +kernel
theorem dX12_through_19 : decode cX12_through 19 = .ok (.ireturn, 1) := by decide +kernel
theorem dX12_through_20 : decode cX12_through 20 = .ok (.aload_n 0, 1) := by decide +kernel
theorem dX12_through_21 : decode cX12_through 21 = .ok (.iload_n 1, 1) := by decide +kernel
theorem dX12_through_22 : decode cX12_through 22 = .ok (.invokevirtual 384, 3) := by decide +kernel
theorem dX12_through_25 : decode cX12_through 25 = .ok (.ireturn, 1) := by decide +kernel
theorem dX12_kept_0 : decode cX12_kept 0 = .ok (.aload_n 0, 1) := by decide +kernel
theorem dX12_kept_1 : decode cX12_kept 1 = .ok (.iconst 0, 1) := by decide +kernel
theorem dX12_kept_2 : decode cX12_kept 2 = .ok (.putfield 94, 3) := by decide +kernel
theorem dX12_kept_5 : decode cX12_kept 5 = .ok (.aload_n 0, 1) := by decide +kernel
theorem dX12_kept_6 : decode cX12_kept 6 = .ok (.iload_n 2, 1) := by decide +kernel
theorem dX12_kept_7 : decode cX12_kept 7 = .ok (.iconst 0, 1) := by decide +kernel
theorem dX12_kept_8 : decode cX12_kept 8 = .ok (.sipush 1000, 3) := by decide +kernel
theorem dX12_kept_11 : decode cX12_kept 11 = .ok (.invokestatic 128, 3) := by decide +kernel
theorem dX12_kept_14 : decode cX12_kept 14 = .ok (.ifCond .ne 7, 3) := by decide +kernel
theorem dX12_kept_17 : decode cX12_kept 17 = .ok (.iconst 1, 1) := by decide +kernel
theorem dX12_kept_18 : decode cX12_kept 18 = .ok (.goto 4, 3) := by decide +kernel
theorem dX12_kept_21 : decode cX12_kept 21 = .ok (.iconst 0, 1) := by decide +kernel
theorem dX12_kept_22 : decode cX12_kept 22 = .ok (.iconst 1, 1) := by decide +kernel
theorem dX12_kept_23 : decode cX12_kept 23 = .ok (.iconst 1, 1) := by decide +kernel
theorem dX12_kept_24 : decode cX12_kept 24 = .ok (.invokevirtual 167, 3) := by decide +kernel
theorem dX12_kept_27 : decode cX12_kept 27 = .ok (.ifCond .eq 5, 3) := by decide +kernel
theorem dX12_kept_30 : decode cX12_kept 30 = .ok (.iconst 0, 1) := by decide +kernel
theorem dX12_kept_31 : decode cX12_kept 31 = .ok (.ireturn, 1) := by decide +kernel
theorem dX12_kept_32 : decode cX12_kept 32 = .ok (.iconst 0, 1) := by decide +kernel
theorem dX12_kept_33 : decode cX12_kept 33 = .ok (.istore_n 3, 1) := by decide +kernel
theorem dX12_kept_34 : decode cX12_kept 34 = .ok (.iconst 0, 1) := by decide +kernel
theorem dX12_kept_35 : decode cX12_kept 35 = .ok (.istore 4, 2) := by decide +kernel
theorem dX12_kept_37 : decode cX12_kept 37 = .ok (.iload 4, 2) := by decide +kernel
theorem dX12_kept_39 : decode cX12_kept 39 = .ok (.iload_n 2, 1) := by decide +kernel
theorem dX12_kept_40 : decode cX12_kept 40 = .ok (.if_icmp .ge 39, 3) := by decide +kernel
theorem dX12_kept_43 : decode cX12_kept 43 = .ok (.aload_n 0, 1) := by decide +kernel
theorem dX12_kept_44 : decode cX12_kept 44 = .ok (.invokevirtual 381, 3) := by decide +kernel
theorem dX12_kept_47 : decode cX12_kept 47 = .ok (.ifCond .ne 32, 3) := by decide +kernel
theorem dX12_kept_50 : decode cX12_kept 50 = .ok (.iload_n 3, 1) := by decide +kernel
theorem dX12_kept_51 : decode cX12_kept 51 = .ok (.aload_n 0, 1) := by decide +kernel
theorem dX12_kept_52 : decode cX12_kept 52 = .ok (.iload_n 1, 1) := by decide +kernel
theorem dX12_kept_53 : decode cX12_kept 53 = .ok (.iload 4, 2) := by decide +kernel
theorem dX12_kept_55 : decode cX12_kept 55 = .ok (.iadd, 1) := by decide +kernel
theorem dX12_kept_56 : decode cX12_kept 56 = .ok (.invokevirtual 384, 3) := by decide +kernel
theorem dX12_kept_59 : decode cX12_kept 59 = .ok (.iload_n 1, 1) := by decide +kernel
theorem dX12_kept_60 : decode cX12_kept 60 = .ok (.iload 4, 2) := by decide +kernel
theorem dX12_kept_62 : decode cX12_kept 62 = .ok (.iadd, 1) := by decide +kernel
theorem dX12_kept_63 : decode cX12_kept 63 = .ok (.if_icmp .ne 7, 3) := by decide +kernel
theorem dX12_kept_66 : decode cX12_kept 66 = .ok (.iconst 1, 1) := by decide +kernel
theorem dX12_kept_67 : decode cX12_kept 67 = .ok (.goto 4, 3) := by decide +kernel
theorem dX12_kept_70 : decode cX12_kept 70 = .ok (.iconst 0, 1) := by decide +kernel
theorem dX12_kept_71 : decode cX12_kept 71 = .ok (.iadd, 1) := by decide +kernel
theorem dX12_kept_72 : decode cX12_kept 72 = .ok (.istore_n 3, 1) := by decide +kernel
theorem dX12_kept_73 : decode cX12_kept 73 = .ok (.iinc 4 1, 3) := by decide +kernel
theorem dX12_kept_76 : decode cX12_kept 76 = .ok (.goto (-39), 3) := by decide +kernel
theorem dX12_kept_79 : decode cX12_kept 79 = .ok (.iload_n 3, 1) := by decide +kernel
theorem dX12_kept_80 : decode cX12_kept 80 = .ok (.ireturn, 1) := by decide +kernel
theorem dX12_gives_0 : decode cX12_gives 0 = .ok (.aload_n 0, 1) := by decide +kernel
theorem dX12_gives_1 : decode cX12_gives 1 = .ok (.iconst 0, 1) := by decide +kernel
theorem dX12_gives_2 : decode cX12_gives 2 = .ok (.putfield 94, 3) := by decide +kernel
theorem dX12_gives_5 : decode cX12_gives 5 = .ok (.aload_n 0, 1) := by decide +kernel
theorem dX12_gives_6 : decode cX12_gives 6 = .ok (.iload_n 3, 1) := by decide +kernel
theorem dX12_gives_7 : decode cX12_gives 7 = .ok (.iconst 0, 1) := by decide +kernel
theorem dX12_gives_8 : decode cX12_gives 8 = .ok (.sipush 1000, 3) := by decide +kernel
theorem dX12_gives_11 : decode cX12_gives 11 = .ok (.invokestatic 128, 3) := by decide +kernel
theorem dX12_gives_14 : decode cX12_gives 14 = .ok (.ifCond .ne 7, 3) := by decide +kernel
theorem dX12_gives_17 : decode cX12_gives 17 = .ok (.iconst 1, 1) := by decide +kernel
theorem dX12_gives_18 : decode cX12_gives 18 = .ok (.goto 4, 3) := by decide +kernel
theorem dX12_gives_21 : decode cX12_gives 21 = .ok (.iconst 0, 1) := by decide +kernel
theorem dX12_gives_22 : decode cX12_gives 22 = .ok (.iconst 1, 1) := by decide +kernel
theorem dX12_gives_23 : decode cX12_gives 23 = .ok (.iconst 1, 1) := by decide +kernel
theorem dX12_gives_24 : decode cX12_gives 24 = .ok (.invokevirtual 167, 3) := by decide +kernel
theorem dX12_gives_27 : decode cX12_gives 27 = .ok (.ifCond .eq 5, 3) := by decide +kernel
theorem dX12_gives_30 : decode cX12_gives 30 = .ok (.iconst 0, 1) := by decide +kernel
theorem dX12_gives_31 : decode cX12_gives 31 = .ok (.ireturn, 1) := by decide +kernel
theorem dX12_gives_32 : decode cX12_gives 32 = .ok (.iconst 0, 1) := by decide +kernel
theorem dX12_gives_33 : decode cX12_gives 33 = .ok (.istore 4, 2) := by decide +kernel
theorem dX12_gives_35 : decode cX12_gives 35 = .ok (.iload 4, 2) := by decide +kernel
theorem dX12_gives_37 : decode cX12_gives 37 = .ok (.iload_n 3, 1) := by decide +kernel
theorem dX12_gives_38 : decode cX12_gives 38 = .ok (.if_icmp .ge 31, 3) := by decide +kernel
theorem dX12_gives_41 : decode cX12_gives 41 = .ok (.aload_n 0, 1) := by decide +kernel
theorem dX12_gives_42 : decode cX12_gives 42 = .ok (.invokevirtual 381, 3) := by decide +kernel
theorem dX12_gives_45 : decode cX12_gives 45 = .ok (.ifCond .ne 24, 3) := by decide +kernel
theorem dX12_gives_48 : decode cX12_gives 48 = .ok (.aload_n 0, 1) := by decide +kernel
theorem dX12_gives_49 : decode cX12_gives 49 = .ok (.iload_n 2, 1) := by decide +kernel
theorem dX12_gives_50 : decode cX12_gives 50 = .ok (.iload 4, 2) := by decide +kernel
theorem dX12_gives_52 : decode cX12_gives 52 = .ok (.iadd, 1) := by decide +kernel
theorem dX12_gives_53 : decode cX12_gives 53 = .ok (.invokevirtual 384, 3) := by decide +kernel
theorem dX12_gives_56 : decode cX12_gives 56 = .ok (.iload_n 1, 1) := by decide +kernel
theorem dX12_gives_57 : decode cX12_gives 57 = .ok (.if_icmp .ne 6, 3) := by decide +kernel
theorem dX12_gives_60 : decode cX12_gives 60 = .ok (.iload 4, 2) := by decide +kernel
theorem dX12_gives_62 : decode cX12_gives 62 = .ok (.ireturn, 1) := by decide +kernel
theorem dX12_gives_63 : decode cX12_gives 63 = .ok (.iinc 4 1, 3) := by decide +kernel
theorem dX12_gives_66 : decode cX12_gives 66 = .ok (.goto (-31), 3) := by decide +kernel
theorem dX12_gives_69 : decode cX12_gives 69 = .ok (.iconst (-1), 1) := by decide +kernel
theorem dX12_gives_70 : decode cX12_gives 70 = .ok (.ireturn, 1) := by decide +kernel
theorem dX12_worst_0 : decode cX12_worst 0 = .ok (.aload_n 0, 1) := by decide +kernel
theorem dX12_worst_1 : decode cX12_worst 1 = .ok (.iconst 0, 1) := by decide +kernel
theorem dX12_worst_2 : decode cX12_worst 2 = .ok (.putfield 94, 3) := by decide +kernel
theorem dX12_worst_5 : decode cX12_worst 5 = .ok (.aload_n 0, 1) := by decide +kernel
theorem dX12_worst_6 : decode cX12_worst 6 = .ok (.iload_n 2, 1) := by decide +kernel
theorem dX12_worst_7 : decode cX12_worst 7 = .ok (.iconst 0, 1) := by decide +kernel
theorem dX12_worst_8 : decode cX12_worst 8 = .ok (.sipush 1000, 3) := by decide +kernel
theorem dX12_worst_11 : decode cX12_worst 11 = .ok (.invokestatic 128, 3) := by decide +kernel
theorem dX12_worst_14 : decode cX12_worst 14 = .ok (.ifCond .eq 12, 3) := by decide +kernel
theorem dX12_worst_17 : decode cX12_worst 17 = .ok (.iload_n 3, 1) := by decide +kernel
theorem dX12_worst_18 : decode cX12_worst 18 = .ok (.iconst 0, 1) := by decide +kernel
theorem dX12_worst_19 : decode cX12_worst 19 = .ok (.iconst 1, 1) := by decide +kernel
theorem dX12_worst_20 : decode cX12_worst 20 = .ok (.invokestatic 128, 3) := by decide +kernel
theorem dX12_worst_23 : decode cX12_worst 23 = .ok (.ifCond .ne 7, 3) := by decide +kernel
theorem dX12_worst_26 : decode cX12_worst 26 = .ok (.iconst 1, 1) := by decide +kernel
theorem dX12_worst_27 : decode cX12_worst 27 = .ok (.goto 4, 3) := by decide +kernel
theorem dX12_worst_30 : decode cX12_worst 30 = .ok (.iconst 0, 1) := by decide +kernel
theorem dX12_worst_31 : decode cX12_worst 31 = .ok (.iconst 1, 1) := by decide +kernel
theorem dX12_worst_32 : decode cX12_worst 32 = .ok (.iconst 1, 1) := by decide +kernel
theorem dX12_worst_33 : decode cX12_worst 33 = .ok (.invokevirtual 167, 3) := by decide +kernel
theorem dX12_worst_36 : decode cX12_worst 36 = .ok (.ifCond .eq 5, 3) := by decide +kernel
theorem dX12_worst_39 : decode cX12_worst 39 = .ok (.iconst 0, 1) := by decide +kernel
theorem dX12_worst_40 : decode cX12_worst 40 = .ok (.ireturn, 1) := by decide +kernel
theorem dX12_worst_41 : decode cX12_worst 41 = .ok (.iconst (-1), 1) := by decide +kernel
theorem dX12_worst_42 : decode cX12_worst 42 = .ok (.istore 4, 2) := by decide +kernel
theorem dX12_worst_44 : decode cX12_worst 44 = .ok (.iconst (-1), 1) := by decide +kernel
theorem dX12_worst_45 : decode cX12_worst 45 = .ok (.istore 5, 2) := by decide +kernel
theorem dX12_worst_47 : decode cX12_worst 47 = .ok (.iconst 0, 1) := by decide +kernel
theorem dX12_worst_48 : decode cX12_worst 48 = .ok (.istore 6, 2) := by decide +kernel
theorem dX12_worst_50 : decode cX12_worst 50 = .ok (.iload 6, 2) := by decide +kernel
theorem dX12_worst_52 : decode cX12_worst 52 = .ok (.iload_n 2, 1) := by decide +kernel
theorem dX12_worst_53 : decode cX12_worst 53 = .ok (.if_icmp .ge 58, 3) := by decide +kernel
theorem dX12_worst_56 : decode cX12_worst 56 = .ok (.aload_n 0, 1) := by decide +kernel
theorem dX12_worst_57 : decode cX12_worst 57 = .ok (.invokevirtual 381, 3) := by decide +kernel
theorem dX12_worst_60 : decode cX12_worst 60 = .ok (.ifCond .ne 51, 3) := by decide +kernel
theorem dX12_worst_63 : decode cX12_worst 63 = .ok (.iload_n 1, 1) := by decide +kernel
theorem dX12_worst_64 : decode cX12_worst 64 = .ok (.iload 6, 2) := by decide +kernel
theorem dX12_worst_66 : decode cX12_worst 66 = .ok (.iadd, 1) := by decide +kernel
theorem dX12_worst_67 : decode cX12_worst 67 = .ok (.aload_n 0, 1) := by decide +kernel
theorem dX12_worst_68 : decode cX12_worst 68 = .ok (.iload_n 1, 1) := by decide +kernel
theorem dX12_worst_69 : decode cX12_worst 69 = .ok (.iload 6, 2) := by decide +kernel
theorem dX12_worst_71 : decode cX12_worst 71 = .ok (.iadd, 1) := by decide +kernel
theorem dX12_worst_72 : decode cX12_worst 72 = .ok (.invokevirtual 384, 3) := by decide +kernel
theorem dX12_worst_75 : decode cX12_worst 75 = .ok (.invokestatic 294, 3) := by decide +kernel
theorem dX12_worst_78 : decode cX12_worst 78 = .ok (.istore 7, 2) := by decide +kernel
theorem dX12_worst_80 : decode cX12_worst 80 = .ok (.iload 7, 2) := by decide +kernel
theorem dX12_worst_82 : decode cX12_worst 82 = .ok (.iload 5, 2) := by decide +kernel
theorem dX12_worst_84 : decode cX12_worst 84 = .ok (.if_icmp .le 8, 3) := by decide +kernel
theorem dX12_worst_87 : decode cX12_worst 87 = .ok (.iload 6, 2) := by decide +kernel
theorem dX12_worst_89 : decode cX12_worst 89 = .ok (.goto 5, 3) := by decide +kernel
theorem dX12_worst_92 : decode cX12_worst 92 = .ok (.iload 4, 2) := by decide +kernel
theorem dX12_worst_94 : decode cX12_worst 94 = .ok (.istore 4, 2) := by decide +kernel
theorem dX12_worst_96 : decode cX12_worst 96 = .ok (.iload 5, 2) := by decide +kernel
theorem dX12_worst_98 : decode cX12_worst 98 = .ok (.iload 7, 2) := by decide +kernel
theorem dX12_worst_100 : decode cX12_worst 100 = .ok (.invokestatic 237, 3) := by decide +kernel
theorem dX12_worst_103 : decode cX12_worst 103 = .ok (.istore 5, 2) := by decide +kernel
theorem dX12_worst_105 : decode cX12_worst 105 = .ok (.iinc 6 1, 3) := by decide +kernel
theorem dX12_worst_108 : decode cX12_worst 108 = .ok (.goto (-58), 3) := by decide +kernel
theorem dX12_worst_111 : decode cX12_worst 111 = .ok (.iload_n 3, 1) := by decide +kernel
theorem dX12_worst_112 : decode cX12_worst 112 = .ok (.ifCond .ne 8, 3) := by decide +kernel
theorem dX12_worst_115 : decode cX12_worst 115 = .ok (.iload 4, 2) := by decide +kernel
theorem dX12_worst_117 : decode cX12_worst 117 = .ok (.goto 5, 3) := by decide +kernel
theorem dX12_worst_120 : decode cX12_worst 120 = .ok (.iload 5, 2) := by decide +kernel
theorem dX12_worst_122 : decode cX12_worst 122 = .ok (.ireturn, 1) := by decide +kernel
theorem dX12_tries_0 : decode cX12_tries 0 = .ok (.aload_n 0, 1) := by decide +kernel
theorem dX12_tries_1 : decode cX12_tries 1 = .ok (.getfield 79, 3) := by decide +kernel
theorem dX12_tries_4 : decode cX12_tries 4 = .ok (.iload 4, 2) := by decide +kernel
theorem dX12_tries_6 : decode cX12_tries 6 = .ok (.iconst 1, 1) := by decide +kernel
theorem dX12_tries_7 : decode cX12_tries 7 = .ok (.isub, 1) := by decide +kernel
theorem dX12_tries_8 : decode cX12_tries 8 = .ok (.iaload, 1) := by decide +kernel
theorem dX12_tries_9 : decode cX12_tries 9 = .ok (.istore 6, 2) := by decide +kernel
theorem dX12_tries_11 : decode cX12_tries 11 = .ok (.iload_n 2, 1) := by decide +kernel
theorem dX12_tries_12 : decode cX12_tries 12 = .ok (.iload_n 3, 1) := by decide +kernel
theorem dX12_tries_13 : decode cX12_tries 13 = .ok (.invokestatic 294, 3) := by decide +kernel
theorem dX12_tries_16 : decode cX12_tries 16 = .ok (.istore 7, 2) := by decide +kernel
theorem dX12_tries_18 : decode cX12_tries 18 = .ok (.iload 6, 2) := by decide +kernel
theorem dX12_tries_20 : decode cX12_tries 20 = .ok (.iload_n 1, 1) := by decide +kernel
theorem dX12_tries_21 : decode cX12_tries 21 = .ok (.if_icmp .ne 82, 3) := by decide +kernel
theorem dX12_tries_24 : decode cX12_tries 24 = .ok (.aload_n 0, 1) := by decide +kernel
theorem dX12_tries_25 : decode cX12_tries 25 = .ok (.getfield 387, 3) := by decide +kernel
theorem dX12_tries_28 : decode cX12_tries 28 = .ok (.iconst (-1), 1) := by decide +kernel
theorem dX12_tries_29 : decode cX12_tries 29 = .ok (.if_icmp .eq 31, 3) := by decide +kernel
theorem dX12_tries_32 : decode cX12_tries 32 = .ok (.iload 7, 2) := by decide +kernel
theorem dX12_tries_34 : decode cX12_tries 34 = .ok (.aload_n 0, 1) := by decide +kernel
theorem dX12_tries_35 : decode cX12_tries 35 = .ok (.getfield 387, 3) := by decide +kernel
theorem dX12_tries_38 : decode cX12_tries 38 = .ok (.if_icmp .gt 21, 3) := by decide +kernel
theorem dX12_tries_41 : decode cX12_tries 41 = .ok (.iload 7, 2) := by decide +kernel
theorem dX12_tries_43 : decode cX12_tries 43 = .ok (.aload_n 0, 1) := by decide +kernel
theorem dX12_tries_44 : decode cX12_tries 44 = .ok (.getfield 387, 3) := by decide +kernel
theorem dX12_tries_47 : decode cX12_tries 47 = .ok (.if_icmp .ne 13, 3) := by decide +kernel
theorem dX12_tries_50 : decode cX12_tries 50 = .ok (.iload 4, 2) := by decide +kernel
theorem dX12_tries_52 : decode cX12_tries 52 = .ok (.aload_n 0, 1) := by decide +kernel
theorem dX12_tries_53 : decode cX12_tries 53 = .ok (.getfield 390, 3) := by decide +kernel
theorem dX12_tries_56 : decode cX12_tries 56 = .ok (.if_icmp .lt 4, 3) := by decide +kernel
theorem dX12_tries_59 : decode cX12_tries 59 = .ok (.return_, 1) := by decide +kernel
theorem dX12_tries_60 : decode cX12_tries 60 = .ok (.aload_n 0, 1) := by decide +kernel
theorem dX12_tries_61 : decode cX12_tries 61 = .ok (.iload 7, 2) := by decide +kernel
theorem dX12_tries_63 : decode cX12_tries 63 = .ok (.putfield 387, 3) := by decide +kernel
theorem dX12_tries_66 : decode cX12_tries 66 = .ok (.aload_n 0, 1) := by decide +kernel
theorem dX12_tries_67 : decode cX12_tries 67 = .ok (.iload 4, 2) := by decide +kernel
theorem dX12_tries_69 : decode cX12_tries 69 = .ok (.putfield 390, 3) := by decide +kernel
theorem dX12_tries_72 : decode cX12_tries 72 = .ok (.iconst 0, 1) := by decide +kernel
theorem dX12_tries_73 : decode cX12_tries 73 = .ok (.istore 8, 2) := by decide +kernel
theorem dX12_tries_75 : decode cX12_tries 75 = .ok (.iload 8, 2) := by decide +kernel
theorem dX12_tries_77 : decode cX12_tries 77 = .ok (.iload 4, 2) := by decide +kernel
theorem dX12_tries_79 : decode cX12_tries 79 = .ok (.if_icmp .ge 23, 3) := by decide +kernel
theorem dX12_tries_82 : decode cX12_tries 82 = .ok (.aload_n 0, 1) := by decide +kernel
theorem dX12_tries_83 : decode cX12_tries 83 = .ok (.getfield 82, 3) := by decide +kernel
theorem dX12_tries_86 : decode cX12_tries 86 = .ok (.iload 8, 2) := by decide +kernel
theorem dX12_tries_88 : decode cX12_tries 88 = .ok (.aload_n 0, 1) := by decide +kernel
theorem dX12_tries_89 : decode cX12_tries 89 = .ok (.getfield 79, 3) := by decide +kernel
theorem dX12_tries_92 : decode cX12_tries 92 = .ok (.iload 8, 2) := by decide +kernel
theorem dX12_tries_94 : decode cX12_tries 94 = .ok (.iaload, 1) := by decide +kernel
theorem dX12_tries_95 : decode cX12_tries 95 = .ok (.iastore, 1) := by decide +kernel
theorem dX12_tries_96 : decode cX12_tries 96 = .ok (.iinc 8 1, 3) := by decide +kernel
theorem dX12_tries_99 : decode cX12_tries 99 = .ok (.goto (-24), 3) := by decide +kernel
theorem dX12_tries_102 : decode cX12_tries 102 = .ok (.return_, 1) := by decide +kernel
theorem dX12_tries_103 : decode cX12_tries 103 = .ok (.iconst 0, 1) := by decide +kernel
theorem dX12_tries_104 : decode cX12_tries 104 = .ok (.istore 8, 2) := by decide +kernel
theorem dX12_tries_106 : decode cX12_tries 106 = .ok (.iload 8, 2) := by decide +kernel
theorem dX12_tries_108 : decode cX12_tries 108 = .ok (.aload_n 0, 1) := by decide +kernel
theorem dX12_tries_109 : decode cX12_tries 109 = .ok (.getfield 23, 3) := by decide +kernel
theorem dX12_tries_112 : decode cX12_tries 112 = .ok (.iconst 0, 1) := by decide +kernel
theorem dX12_tries_113 : decode cX12_tries 113 = .ok (.iaload, 1) := by decide +kernel
theorem dX12_tries_114 : decode cX12_tries 114 = .ok (.if_icmp .ge 87, 3) := by decide +kernel
theorem dX12_tries_117 : decode cX12_tries 117 = .ok (.iload 5, 2) := by decide +kernel
theorem dX12_tries_119 : decode cX12_tries 119 = .ok (.iload 8, 2) := by decide +kernel
theorem dX12_tries_121 : decode cX12_tries 121 = .ok (.invokestatic 393, 3) := by decide +kernel
theorem dX12_tries_124 : decode cX12_tries 124 = .ok (.ifCond .ne 71, 3) := by decide +kernel
theorem dX12_tries_127 : decode cX12_tries 127 = .ok (.aload_n 0, 1) := by decide +kernel
theorem dX12_tries_128 : decode cX12_tries 128 = .ok (.iload 6, 2) := by decide +kernel
theorem dX12_tries_130 : decode cX12_tries 130 = .ok (.iconst 0, 1) := by decide +kernel
theorem dX12_tries_131 : decode cX12_tries 131 = .ok (.invokevirtual 358, 3) := by decide +kernel
theorem dX12_tries_134 : decode cX12_tries 134 = .ok (.iload 8, 2) := by decide +kernel
theorem dX12_tries_136 : decode cX12_tries 136 = .ok (.invokestatic 393, 3) := by decide +kernel
theorem dX12_tries_139 : decode cX12_tries 139 = .ok (.ifCond .eq 56, 3) := by decide +kernel
theorem dX12_tries_142 : decode cX12_tries 142 = .ok (.aload_n 0, 1) := by decide +kernel
theorem dX12_tries_143 : decode cX12_tries 143 = .ok (.aload_n 0, 1) := by decide +kernel
theorem dX12_tries_144 : decode cX12_tries 144 = .ok (.getfield 67, 3) := by decide +kernel
theorem dX12_tries_147 : decode cX12_tries 147 = .ok (.iload 8, 2) := by decide +kernel
theorem dX12_tries_149 : decode cX12_tries 149 = .ok (.invokevirtual 286, 3) := by decide +kernel
theorem dX12_tries_152 : decode cX12_tries 152 = .ok (.ifCond .eq 6, 3) := by decide +kernel
theorem dX12_tries_155 : decode cX12_tries 155 = .ok (.goto 40, 3) := by decide +kernel
theorem dX12_tries_158 : decode cX12_tries 158 = .ok (.aload_n 0, 1) := by decide +kernel
theorem dX12_tries_159 : decode cX12_tries 159 = .ok (.getfield 79, 3) := by decide +kernel
theorem dX12_tries_162 : decode cX12_tries 162 = .ok (.iload 4, 2) := by decide +kernel
theorem dX12_tries_164 : decode cX12_tries 164 = .ok (.iload 8, 2) := by decide +kernel
theorem dX12_tries_166 : decode cX12_tries 166 = .ok (.iastore, 1) := by decide +kernel
theorem dX12_tries_167 : decode cX12_tries 167 = .ok (.aload_n 0, 1) := by decide +kernel
theorem dX12_tries_168 : decode cX12_tries 168 = .ok (.iload_n 1, 1) := by decide +kernel
theorem dX12_tries_169 : decode cX12_tries 169 = .ok (.iload_n 2, 1) := by decide +kernel
theorem dX12_tries_170 : decode cX12_tries 170 = .ok (.aload_n 0, 1) := by decide +kernel
theorem dX12_tries_171 : decode cX12_tries 171 = .ok (.aload_n 0, 1) := by decide +kernel
theorem dX12_tries_172 : decode cX12_tries 172 = .ok (.getfield 67, 3) := by decide +kernel
theorem dX12_tries_175 : decode cX12_tries 175 = .ok (.iload 8, 2) := by decide +kernel
theorem dX12_tries_177 : decode cX12_tries 177 = .ok (.iload_n 3, 1) := by decide +kernel
theorem dX12_tries_178 : decode cX12_tries 178 = .ok (.invokevirtual 290, 3) := by decide +kernel
theorem dX12_tries_181 : decode cX12_tries 181 = .ok (.iload 4, 2) := by decide +kernel
theorem dX12_tries_183 : decode cX12_tries 183 = .ok (.iconst 1, 1) := by decide +kernel
theorem dX12_tries_184 : decode cX12_tries 184 = .ok (.iadd, 1) := by decide +kernel
theorem dX12_tries_185 : decode cX12_tries 185 = .ok (.iload 5, 2) := by decide +kernel
theorem dX12_tries_187 : decode cX12_tries 187 = .ok (.iconst 1, 1) := by decide +kernel
theorem dX12_tries_188 : decode cX12_tries 188 = .ok (.iload 8, 2) := by decide +kernel
theorem dX12_tries_190 : decode cX12_tries 190 = .ok (.ishl, 1) := by decide +kernel
theorem dX12_tries_191 : decode cX12_tries 191 = .ok (.ior, 1) := by decide +kernel
theorem dX12_tries_192 : decode cX12_tries 192 = .ok (.invokevirtual 396, 3) := by decide +kernel
theorem dX12_tries_195 : decode cX12_tries 195 = .ok (.iinc 8 1, 3) := by decide +kernel
theorem dX12_tries_198 : decode cX12_tries 198 = .ok (.goto (-92), 3) := by decide +kernel
theorem dX12_tries_201 : decode cX12_tries 201 = .ok (.return_, 1) := by decide +kernel
theorem dX12_laysBest_0 : decode cX12_laysBest 0 = .ok (.aload_n 0, 1) := by decide +kernel
theorem dX12_laysBest_1 : decode cX12_laysBest 1 = .ok (.iconst (-1), 1) := by decide +kernel
theorem dX12_laysBest_2 : decode cX12_laysBest 2 = .ok (.putfield 387, 3) := by decide +kernel
theorem dX12_laysBest_5 : decode cX12_laysBest 5 = .ok (.aload_n 0, 1) := by decide +kernel
theorem dX12_laysBest_6 : decode cX12_laysBest 6 = .ok (.iconst (-1), 1) := by decide +kernel
theorem dX12_laysBest_7 : decode cX12_laysBest 7 = .ok (.putfield 390, 3) := by decide +kernel
theorem dX12_laysBest_10 : decode cX12_laysBest 10 = .ok (.aload_n 0, 1) := by decide +kernel
theorem dX12_laysBest_11 : decode cX12_laysBest 11 = .ok (.getfield 79, 3) := by decide +kernel
theorem dX12_laysBest_14 : decode cX12_laysBest 14 = .ok (.iconst 0, 1) := by decide +kernel
theorem dX12_laysBest_15 : decode cX12_laysBest 15 = .ok (.iload_n 1, 1) := by decide +kernel
theorem dX12_laysBest_16 : decode cX12_laysBest 16 = .ok (.iastore, 1) := by decide +kernel
theorem dX12_laysBest_17 : decode cX12_laysBest 17 = .ok (.aload_n 0, 1) := by decide +kernel
theorem dX12_laysBest_18 : decode cX12_laysBest 18 = .ok (.aload_n 0, 1) := by decide +kernel
theorem dX12_laysBest_19 : decode cX12_laysBest 19 = .ok (.getfield 67, 3) := by decide +kernel
theorem dX12_laysBest_22 : decode cX12_laysBest 22 = .ok (.iload_n 1, 1) := by decide +kernel
theorem dX12_laysBest_23 : decode cX12_laysBest 23 = .ok (.invokevirtual 286, 3) := by decide +kernel
theorem dX12_laysBest_26 : decode cX12_laysBest 26 = .ok (.ifCond .ne 23, 3) := by decide +kernel
theorem dX12_laysBest_29 : decode cX12_laysBest 29 = .ok (.aload_n 0, 1) := by decide +kernel
theorem dX12_laysBest_30 : decode cX12_laysBest 30 = .ok (.iload_n 2, 1) := by decide +kernel
theorem dX12_laysBest_31 : decode cX12_laysBest 31 = .ok (.iload_n 3, 1) := by decide +kernel
theorem dX12_laysBest_32 : decode cX12_laysBest 32 = .ok (.aload_n 0, 1) := by decide +kernel
theorem dX12_laysBest_33 : decode cX12_laysBest 33 = .ok (.aload_n 0, 1) := by decide +kernel
theorem dX12_laysBest_34 : decode cX12_laysBest 34 = .ok (.getfield 67, 3) := by decide +kernel
theorem dX12_laysBest_37 : decode cX12_laysBest 37 = .ok (.iload_n 1, 1) := by decide +kernel
theorem dX12_laysBest_38 : decode cX12_laysBest 38 = .ok (.iload_n 3, 1) := by decide +kernel
theorem dX12_laysBest_39 : decode cX12_laysBest 39 = .ok (.invokevirtual 290, 3) := by decide +kernel
theorem dX12_laysBest_42 : decode cX12_laysBest 42 = .ok (.iconst 1, 1) := by decide +kernel
theorem dX12_laysBest_43 : decode cX12_laysBest 43 = .ok (.iconst 1, 1) := by decide +kernel
theorem dX12_laysBest_44 : decode cX12_laysBest 44 = .ok (.iload_n 1, 1) := by decide +kernel
theorem dX12_laysBest_45 : decode cX12_laysBest 45 = .ok (.ishl, 1) := by decide +kernel
theorem dX12_laysBest_46 : decode cX12_laysBest 46 = .ok (.invokevirtual 396, 3) := by decide +kernel
theorem dX12_laysBest_49 : decode cX12_laysBest 49 = .ok (.return_, 1) := by decide +kernel
theorem dX12_best_0 : decode cX12_best 0 = .ok (.aload_n 0, 1) := by decide +kernel
theorem dX12_best_1 : decode cX12_best 1 = .ok (.iconst 0, 1) := by decide +kernel
theorem dX12_best_2 : decode cX12_best 2 = .ok (.putfield 94, 3) := by decide +kernel
theorem dX12_best_5 : decode cX12_best 5 = .ok (.aload_n 0, 1) := by decide +kernel
theorem dX12_best_6 : decode cX12_best 6 = .ok (.aload_n 0, 1) := by decide +kernel
theorem dX12_best_7 : decode cX12_best 7 = .ok (.iload_n 1, 1) := by decide +kernel
theorem dX12_best_8 : decode cX12_best 8 = .ok (.invokevirtual 355, 3) := by decide +kernel
theorem dX12_best_11 : decode cX12_best 11 = .ok (.ifCond .eq 11, 3) := by decide +kernel
theorem dX12_best_14 : decode cX12_best 14 = .ok (.aload_n 0, 1) := by decide +kernel
theorem dX12_best_15 : decode cX12_best 15 = .ok (.iload_n 2, 1) := by decide +kernel
theorem dX12_best_16 : decode cX12_best 16 = .ok (.invokevirtual 355, 3) := by decide +kernel
theorem dX12_best_19 : decode cX12_best 19 = .ok (.ifCond .ne 7, 3) := by decide +kernel
theorem dX12_best_22 : decode cX12_best 22 = .ok (.iconst 1, 1) := by decide +kernel
theorem dX12_best_23 : decode cX12_best 23 = .ok (.goto 4, 3) := by decide +kernel
theorem dX12_best_26 : decode cX12_best 26 = .ok (.iconst 0, 1) := by decide +kernel
theorem dX12_best_27 : decode cX12_best 27 = .ok (.iconst 1, 1) := by decide +kernel
theorem dX12_best_28 : decode cX12_best 28 = .ok (.iconst 0, 1) := by decide +kernel
theorem dX12_best_29 : decode cX12_best 29 = .ok (.invokevirtual 167, 3) := by decide +kernel
theorem dX12_best_32 : decode cX12_best 32 = .ok (.ifCond .ne 27, 3) := by decide +kernel
theorem dX12_best_35 : decode cX12_best 35 = .ok (.aload_n 0, 1) := by decide +kernel
theorem dX12_best_36 : decode cX12_best 36 = .ok (.iload 4, 2) := by decide +kernel
theorem dX12_best_38 : decode cX12_best 38 = .ok (.iconst 0, 1) := by decide +kernel
theorem dX12_best_39 : decode cX12_best 39 = .ok (.iconst 1, 1) := by decide +kernel
theorem dX12_best_40 : decode cX12_best 40 = .ok (.invokestatic 128, 3) := by decide +kernel
theorem dX12_best_43 : decode cX12_best 43 = .ok (.ifCond .ne 7, 3) := by decide +kernel
theorem dX12_best_46 : decode cX12_best 46 = .ok (.iconst 1, 1) := by decide +kernel
theorem dX12_best_47 : decode cX12_best 47 = .ok (.goto 4, 3) := by decide +kernel
theorem dX12_best_50 : decode cX12_best 50 = .ok (.iconst 0, 1) := by decide +kernel
theorem dX12_best_51 : decode cX12_best 51 = .ok (.iconst 2, 1) := by decide +kernel
theorem dX12_best_52 : decode cX12_best 52 = .ok (.iconst 1, 1) := by decide +kernel
theorem dX12_best_53 : decode cX12_best 53 = .ok (.invokevirtual 167, 3) := by decide +kernel
theorem dX12_best_56 : decode cX12_best 56 = .ok (.ifCond .eq 5, 3) := by decide +kernel
theorem dX12_best_59 : decode cX12_best 59 = .ok (.iconst 0, 1) := by decide +kernel
theorem dX12_best_60 : decode cX12_best 60 = .ok (.ireturn, 1) := by decide +kernel
theorem dX12_best_61 : decode cX12_best 61 = .ok (.aload_n 0, 1) := by decide +kernel
theorem dX12_best_62 : decode cX12_best 62 = .ok (.iload_n 1, 1) := by decide +kernel
theorem dX12_best_63 : decode cX12_best 63 = .ok (.iload_n 2, 1) := by decide +kernel
theorem dX12_best_64 : decode cX12_best 64 = .ok (.iload_n 3, 1) := by decide +kernel
theorem dX12_best_65 : decode cX12_best 65 = .ok (.invokevirtual 400, 3) := by decide +kernel
theorem dX12_best_68 : decode cX12_best 68 = .ok (.iload 4, 2) := by decide +kernel
theorem dX12_best_70 : decode cX12_best 70 = .ok (.ifCond .ne 10, 3) := by decide +kernel
theorem dX12_best_73 : decode cX12_best 73 = .ok (.aload_n 0, 1) := by decide +kernel
theorem dX12_best_74 : decode cX12_best 74 = .ok (.getfield 387, 3) := by decide +kernel
theorem dX12_best_77 : decode cX12_best 77 = .ok (.goto 7, 3) := by decide +kernel
theorem dX12_best_80 : decode cX12_best 80 = .ok (.aload_n 0, 1) := by decide +kernel
theorem dX12_best_81 : decode cX12_best 81 = .ok (.getfield 390, 3) := by decide +kernel
theorem dX12_best_84 : decode cX12_best 84 = .ok (.ireturn, 1) := by decide +kernel
theorem dX12_hop_0 : decode cX12_hop 0 = .ok (.aload_n 0, 1) := by decide +kernel
theorem dX12_hop_1 : decode cX12_hop 1 = .ok (.iconst 0, 1) := by decide +kernel
theorem dX12_hop_2 : decode cX12_hop 2 = .ok (.putfield 94, 3) := by decide +kernel
theorem dX12_hop_5 : decode cX12_hop 5 = .ok (.aload_n 0, 1) := by decide +kernel
theorem dX12_hop_6 : decode cX12_hop 6 = .ok (.aload_n 0, 1) := by decide +kernel
theorem dX12_hop_7 : decode cX12_hop 7 = .ok (.iload_n 1, 1) := by decide +kernel
theorem dX12_hop_8 : decode cX12_hop 8 = .ok (.invokevirtual 355, 3) := by decide +kernel
theorem dX12_hop_11 : decode cX12_hop 11 = .ok (.ifCond .eq 11, 3) := by decide +kernel
theorem dX12_hop_14 : decode cX12_hop 14 = .ok (.aload_n 0, 1) := by decide +kernel
theorem dX12_hop_15 : decode cX12_hop 15 = .ok (.iload_n 2, 1) := by decide +kernel
theorem dX12_hop_16 : decode cX12_hop 16 = .ok (.invokevirtual 355, 3) := by decide +kernel
theorem dX12_hop_19 : decode cX12_hop 19 = .ok (.ifCond .ne 7, 3) := by decide +kernel
theorem dX12_hop_22 : decode cX12_hop 22 = .ok (.iconst 1, 1) := by decide +kernel
theorem dX12_hop_23 : decode cX12_hop 23 = .ok (.goto 4, 3) := by decide +kernel
theorem dX12_hop_26 : decode cX12_hop 26 = .ok (.iconst 0, 1) := by decide +kernel
theorem dX12_hop_27 : decode cX12_hop 27 = .ok (.iconst 1, 1) := by decide +kernel
theorem dX12_hop_28 : decode cX12_hop 28 = .ok (.iconst 0, 1) := by decide +kernel
theorem dX12_hop_29 : decode cX12_hop 29 = .ok (.invokevirtual 167, 3) := by decide +kernel
theorem dX12_hop_32 : decode cX12_hop 32 = .ok (.ifCond .ne 22, 3) := by decide +kernel
theorem dX12_hop_35 : decode cX12_hop 35 = .ok (.aload_n 0, 1) := by decide +kernel
theorem dX12_hop_36 : decode cX12_hop 36 = .ok (.iload 4, 2) := by decide +kernel
theorem dX12_hop_38 : decode cX12_hop 38 = .ok (.ifCond .ge 7, 3) := by decide +kernel
theorem dX12_hop_41 : decode cX12_hop 41 = .ok (.iconst 1, 1) := by decide +kernel
theorem dX12_hop_42 : decode cX12_hop 42 = .ok (.goto 4, 3) := by decide +kernel
theorem dX12_hop_45 : decode cX12_hop 45 = .ok (.iconst 0, 1) := by decide +kernel
theorem dX12_hop_46 : decode cX12_hop 46 = .ok (.iconst 2, 1) := by decide +kernel
theorem dX12_hop_47 : decode cX12_hop 47 = .ok (.iconst 1, 1) := by decide +kernel
theorem dX12_hop_48 : decode cX12_hop 48 = .ok (.invokevirtual 167, 3) := by decide +kernel
theorem dX12_hop_51 : decode cX12_hop 51 = .ok (.ifCond .eq 5, 3) := by decide +kernel
theorem dX12_hop_54 : decode cX12_hop 54 = .ok (.iconst 0, 1) := by decide +kernel
theorem dX12_hop_55 : decode cX12_hop 55 = .ok (.ireturn, 1) := by decide +kernel
theorem dX12_hop_56 : decode cX12_hop 56 = .ok (.aload_n 0, 1) := by decide +kernel
theorem dX12_hop_57 : decode cX12_hop 57 = .ok (.iload_n 1, 1) := by decide +kernel
theorem dX12_hop_58 : decode cX12_hop 58 = .ok (.iload_n 2, 1) := by decide +kernel
theorem dX12_hop_59 : decode cX12_hop 59 = .ok (.iload_n 3, 1) := by decide +kernel
theorem dX12_hop_60 : decode cX12_hop 60 = .ok (.invokevirtual 400, 3) := by decide +kernel
theorem dX12_hop_63 : decode cX12_hop 63 = .ok (.iload 4, 2) := by decide +kernel
theorem dX12_hop_65 : decode cX12_hop 65 = .ok (.aload_n 0, 1) := by decide +kernel
theorem dX12_hop_66 : decode cX12_hop 66 = .ok (.getfield 390, 3) := by decide +kernel
theorem dX12_hop_69 : decode cX12_hop 69 = .ok (.if_icmp .ge 13, 3) := by decide +kernel
theorem dX12_hop_72 : decode cX12_hop 72 = .ok (.aload_n 0, 1) := by decide +kernel
theorem dX12_hop_73 : decode cX12_hop 73 = .ok (.getfield 82, 3) := by decide +kernel
theorem dX12_hop_76 : decode cX12_hop 76 = .ok (.iload 4, 2) := by decide +kernel
theorem dX12_hop_78 : decode cX12_hop 78 = .ok (.iaload, 1) := by decide +kernel
theorem dX12_hop_79 : decode cX12_hop 79 = .ok (.goto 4, 3) := by decide +kernel
theorem dX12_hop_82 : decode cX12_hop 82 = .ok (.iconst (-1), 1) := by decide +kernel
theorem dX12_hop_83 : decode cX12_hop 83 = .ok (.ireturn, 1) := by decide +kernel
theorem dX12_tuning_0 : decode cX12_tuning 0 = .ok (.aload_n 0, 1) := by decide +kernel
theorem dX12_tuning_1 : decode cX12_tuning 1 = .ok (.iconst 0, 1) := by decide +kernel
theorem dX12_tuning_2 : decode cX12_tuning 2 = .ok (.putfield 94, 3) := by decide +kernel
theorem dX12_tuning_5 : decode cX12_tuning 5 = .ok (.aload_n 0, 1) := by decide +kernel
theorem dX12_tuning_6 : decode cX12_tuning 6 = .ok (.aload_n 0, 1) := by decide +kernel
theorem dX12_tuning_7 : decode cX12_tuning 7 = .ok (.iload_n 1, 1) := by decide +kernel
theorem dX12_tuning_8 : decode cX12_tuning 8 = .ok (.invokevirtual 355, 3) := by decide +kernel
theorem dX12_tuning_11 : decode cX12_tuning 11 = .ok (.ifCond .ne 7, 3) := by decide +kernel
theorem dX12_tuning_14 : decode cX12_tuning 14 = .ok (.iconst 1, 1) := by decide +kernel
theorem dX12_tuning_15 : decode cX12_tuning 15 = .ok (.goto 4, 3) := by decide +kernel
theorem dX12_tuning_18 : decode cX12_tuning 18 = .ok (.iconst 0, 1) := by decide +kernel
theorem dX12_tuning_19 : decode cX12_tuning 19 = .ok (.iconst 1, 1) := by decide +kernel
theorem dX12_tuning_20 : decode cX12_tuning 20 = .ok (.iconst 0, 1) := by decide +kernel
theorem dX12_tuning_21 : decode cX12_tuning 21 = .ok (.invokevirtual 167, 3) := by decide +kernel
theorem dX12_tuning_24 : decode cX12_tuning 24 = .ok (.ifCond .eq 5, 3) := by decide +kernel
theorem dX12_tuning_27 : decode cX12_tuning 27 = .ok (.iconst 0, 1) := by decide +kernel
theorem dX12_tuning_28 : decode cX12_tuning 28 = .ok (.ireturn, 1) := by decide +kernel
theorem dX12_tuning_29 : decode cX12_tuning 29 = .ok (.iconst 2, 1) := by decide +kernel
theorem dX12_tuning_30 : decode cX12_tuning 30 = .ok (.istore 4, 2) := by decide +kernel
theorem dX12_tuning_32 : decode cX12_tuning 32 = .ok (.iload 4, 2) := by decide +kernel
theorem dX12_tuning_34 : decode cX12_tuning 34 = .ok (.sipush 198, 3) := by decide +kernel
theorem dX12_tuning_37 : decode cX12_tuning 37 = .ok (.if_icmp .gt 75, 3) := by decide +kernel
theorem dX12_tuning_40 : decode cX12_tuning 40 = .ok (.iconst 1, 1) := by decide +kernel
theorem dX12_tuning_41 : decode cX12_tuning 41 = .ok (.iload 4, 2) := by decide +kernel
theorem dX12_tuning_43 : decode cX12_tuning 43 = .ok (.bipush 99, 2) := by decide +kernel
theorem dX12_tuning_45 : decode cX12_tuning 45 = .ok (.isub, 1) := by decide +kernel
theorem dX12_tuning_46 : decode cX12_tuning 46 = .ok (.invokestatic 237, 3) := by decide +kernel
theorem dX12_tuning_49 : decode cX12_tuning 49 = .ok (.istore 5, 2) := by decide +kernel
theorem dX12_tuning_51 : decode cX12_tuning 51 = .ok (.iload 5, 2) := by decide +kernel
theorem dX12_tuning_53 : decode cX12_tuning 53 = .ok (.bipush 99, 2) := by decide +kernel
theorem dX12_tuning_55 : decode cX12_tuning 55 = .ok (.iload 4, 2) := by decide +kernel
theorem dX12_tuning_57 : decode cX12_tuning 57 = .ok (.iconst 1, 1) := by decide +kernel
theorem dX12_tuning_58 : decode cX12_tuning 58 = .ok (.isub, 1) := by decide +kernel
theorem dX12_tuning_59 : decode cX12_tuning 59 = .ok (.invokestatic 234, 3) := by decide +kernel
theorem dX12_tuning_62 : decode cX12_tuning 62 = .ok (.if_icmp .gt 44, 3) := by decide +kernel
theorem dX12_tuning_65 : decode cX12_tuning 65 = .ok (.aload_n 0, 1) := by decide +kernel
theorem dX12_tuning_66 : decode cX12_tuning 66 = .ok (.getfield 31, 3) := by decide +kernel
theorem dX12_tuning_69 : decode cX12_tuning 69 = .ok (.iload_n 1, 1) := by decide +kernel
theorem dX12_tuning_70 : decode cX12_tuning 70 = .ok (.aaload, 1) := by decide +kernel
theorem dX12_tuning_71 : decode cX12_tuning 71 = .ok (.iconst 0, 1) := by decide +kernel
theorem dX12_tuning_72 : decode cX12_tuning 72 = .ok (.iaload, 1) := by decide +kernel
theorem dX12_tuning_73 : decode cX12_tuning 73 = .ok (.iload_n 2, 1) := by decide +kernel
theorem dX12_tuning_74 : decode cX12_tuning 74 = .ok (.iload 5, 2) := by decide +kernel
theorem dX12_tuning_76 : decode cX12_tuning 76 = .ok (.iload 4, 2) := by decide +kernel
theorem dX12_tuning_78 : decode cX12_tuning 78 = .ok (.iload 5, 2) := by decide +kernel
theorem dX12_tuning_80 : decode cX12_tuning 80 = .ok (.isub, 1) := by decide +kernel
theorem dX12_tuning_81 : decode cX12_tuning 81 = .ok (.invokestatic 276, 3) := by decide +kernel
theorem dX12_tuning_84 : decode cX12_tuning 84 = .ok (.iload_n 3, 1) := by decide +kernel
theorem dX12_tuning_85 : decode cX12_tuning 85 = .ok (.if_icmp .ne 15, 3) := by decide +kernel
theorem dX12_tuning_88 : decode cX12_tuning 88 = .ok (.bipush 100, 2) := by decide +kernel
theorem dX12_tuning_90 : decode cX12_tuning 90 = .ok (.iload 5, 2) := by decide +kernel
theorem dX12_tuning_92 : decode cX12_tuning 92 = .ok (.imul, 1) := by decide +kernel
theorem dX12_tuning_93 : decode cX12_tuning 93 = .ok (.iload 4, 2) := by decide +kernel
theorem dX12_tuning_95 : decode cX12_tuning 95 = .ok (.iadd, 1) := by decide +kernel
theorem dX12_tuning_96 : decode cX12_tuning 96 = .ok (.iload 5, 2) := by decide +kernel
theorem dX12_tuning_98 : decode cX12_tuning 98 = .ok (.isub, 1) := by decide +kernel
theorem dX12_tuning_99 : decode cX12_tuning 99 = .ok (.ireturn, 1) := by decide +kernel
theorem dX12_tuning_100 : decode cX12_tuning 100 = .ok (.iinc 5 1, 3) := by decide +kernel
theorem dX12_tuning_103 : decode cX12_tuning 103 = .ok (.goto (-52), 3) := by decide +kernel
theorem dX12_tuning_106 : decode cX12_tuning 106 = .ok (.iinc 4 1, 3) := by decide +kernel
theorem dX12_tuning_109 : decode cX12_tuning 109 = .ok (.goto (-77), 3) := by decide +kernel
theorem dX12_tuning_112 : decode cX12_tuning 112 = .ok (.iconst (-1), 1) := by decide +kernel
theorem dX12_tuning_113 : decode cX12_tuning 113 = .ok (.ireturn, 1) := by decide +kernel
theorem dX12_ring_0 : decode cX12_ring 0 = .ok (.aload_n 0, 1) := by decide +kernel
theorem dX12_ring_1 : decode cX12_ring 1 = .ok (.iconst 0, 1) := by decide +kernel
theorem dX12_ring_2 : decode cX12_ring 2 = .ok (.putfield 94, 3) := by decide +kernel
theorem dX12_ring_5 : decode cX12_ring 5 = .ok (.aload_n 0, 1) := by decide +kernel
theorem dX12_ring_6 : decode cX12_ring 6 = .ok (.aload_n 0, 1) := by decide +kernel
theorem dX12_ring_7 : decode cX12_ring 7 = .ok (.iload_n 1, 1) := by decide +kernel
theorem dX12_ring_8 : decode cX12_ring 8 = .ok (.invokevirtual 355, 3) := by decide +kernel
theorem dX12_ring_11 : decode cX12_ring 11 = .ok (.ifCond .ne 7, 3) := by decide +kernel
theorem dX12_ring_14 : decode cX12_ring 14 = .ok (.iconst 1, 1) := by decide +kernel
theorem dX12_ring_15 : decode cX12_ring 15 = .ok (.goto 4, 3) := by decide +kernel
theorem dX12_ring_18 : decode cX12_ring 18 = .ok (.iconst 0, 1) := by decide +kernel
theorem dX12_ring_19 : decode cX12_ring 19 = .ok (.iconst 1, 1) := by decide +kernel
theorem dX12_ring_20 : decode cX12_ring 20 = .ok (.iconst 0, 1) := by decide +kernel
theorem dX12_ring_21 : decode cX12_ring 21 = .ok (.invokevirtual 167, 3) := by decide +kernel
theorem dX12_ring_24 : decode cX12_ring 24 = .ok (.ifCond .ne 26, 3) := by decide +kernel
theorem dX12_ring_27 : decode cX12_ring 27 = .ok (.aload_n 0, 1) := by decide +kernel
theorem dX12_ring_28 : decode cX12_ring 28 = .ok (.iload_n 3, 1) := by decide +kernel
theorem dX12_ring_29 : decode cX12_ring 29 = .ok (.iconst 0, 1) := by decide +kernel
theorem dX12_ring_30 : decode cX12_ring 30 = .ok (.iconst 1, 1) := by decide +kernel
theorem dX12_ring_31 : decode cX12_ring 31 = .ok (.invokestatic 128, 3) := by decide +kernel
theorem dX12_ring_34 : decode cX12_ring 34 = .ok (.ifCond .ne 7, 3) := by decide +kernel
theorem dX12_ring_37 : decode cX12_ring 37 = .ok (.iconst 1, 1) := by decide +kernel
theorem dX12_ring_38 : decode cX12_ring 38 = .ok (.goto 4, 3) := by decide +kernel
theorem dX12_ring_41 : decode cX12_ring 41 = .ok (.iconst 0, 1) := by decide +kernel
theorem dX12_ring_42 : decode cX12_ring 42 = .ok (.iconst 2, 1) := by decide +kernel
theorem dX12_ring_43 : decode cX12_ring 43 = .ok (.iconst 1, 1) := by decide +kernel
theorem dX12_ring_44 : decode cX12_ring 44 = .ok (.invokevirtual 167, 3) := by decide +kernel
theorem dX12_ring_47 : decode cX12_ring 47 = .ok (.ifCond .eq 5, 3) := by decide +kernel
theorem dX12_ring_50 : decode cX12_ring 50 = .ok (.iconst 0, 1) := by decide +kernel
theorem dX12_ring_51 : decode cX12_ring 51 = .ok (.ireturn, 1) := by decide +kernel
theorem dX12_ring_52 : decode cX12_ring 52 = .ok (.aload_n 0, 1) := by decide +kernel
theorem dX12_ring_53 : decode cX12_ring 53 = .ok (.getfield 85, 3) := by decide +kernel
theorem dX12_ring_56 : decode cX12_ring 56 = .ok (.iconst 0, 1) := by decide +kernel
theorem dX12_ring_57 : decode cX12_ring 57 = .ok (.iload_n 2, 1) := by decide +kernel
theorem dX12_ring_58 : decode cX12_ring 58 = .ok (.iastore, 1) := by decide +kernel
theorem dX12_ring_59 : decode cX12_ring 59 = .ok (.iconst 1, 1) := by decide +kernel
theorem dX12_ring_60 : decode cX12_ring 60 = .ok (.istore 4, 2) := by decide +kernel
theorem dX12_ring_62 : decode cX12_ring 62 = .ok (.iload 4, 2) := by decide +kernel
theorem dX12_ring_64 : decode cX12_ring 64 = .ok (.sipush 1000, 3) := by decide +kernel
theorem dX12_ring_67 : decode cX12_ring 67 = .ok (.if_icmp .gt 94, 3) := by decide +kernel
theorem dX12_ring_70 : decode cX12_ring 70 = .ok (.aload_n 0, 1) := by decide +kernel
theorem dX12_ring_71 : decode cX12_ring 71 = .ok (.aload_n 0, 1) := by decide +kernel
theorem dX12_ring_72 : decode cX12_ring 72 = .ok (.getfield 67, 3) := by decide +kernel
theorem dX12_ring_75 : decode cX12_ring 75 = .ok (.iload_n 1, 1) := by decide +kernel
theorem dX12_ring_76 : decode cX12_ring 76 = .ok (.invokevirtual 286, 3) := by decide +kernel
theorem dX12_ring_79 : decode cX12_ring 79 = .ok (.ifCond .ne 82, 3) := by decide +kernel
theorem dX12_ring_82 : decode cX12_ring 82 = .ok (.aload_n 0, 1) := by decide +kernel
theorem dX12_ring_83 : decode cX12_ring 83 = .ok (.getfield 85, 3) := by decide +kernel
theorem dX12_ring_86 : decode cX12_ring 86 = .ok (.iload 4, 2) := by decide +kernel
theorem dX12_ring_88 : decode cX12_ring 88 = .ok (.aload_n 0, 1) := by decide +kernel
theorem dX12_ring_89 : decode cX12_ring 89 = .ok (.aload_n 0, 1) := by decide +kernel
theorem dX12_ring_90 : decode cX12_ring 90 = .ok (.getfield 67, 3) := by decide +kernel
theorem dX12_ring_93 : decode cX12_ring 93 = .ok (.iload_n 1, 1) := by decide +kernel
theorem dX12_ring_94 : decode cX12_ring 94 = .ok (.aload_n 0, 1) := by decide +kernel
theorem dX12_ring_95 : decode cX12_ring 95 = .ok (.getfield 85, 3) := by decide +kernel
theorem dX12_ring_98 : decode cX12_ring 98 = .ok (.iload 4, 2) := by decide +kernel
theorem dX12_ring_100 : decode cX12_ring 100 = .ok (.iconst 1, 1) := by decide +kernel
theorem dX12_ring_101 : decode cX12_ring 101 = .ok (.isub, 1) := by decide +kernel
theorem dX12_ring_102 : decode cX12_ring 102 = .ok (.iaload, 1) := by decide +kernel
theorem dX12_ring_103 : decode cX12_ring 103 = .ok (.invokevirtual 290, 3) := by decide +kernel
theorem dX12_ring_106 : decode cX12_ring 106 = .ok (.iastore, 1) := by decide +kernel
theorem dX12_ring_107 : decode cX12_ring 107 = .ok (.iconst 0, 1) := by decide +kernel
theorem dX12_ring_108 : decode cX12_ring 108 = .ok (.istore 5, 2) := by decide +kernel
theorem dX12_ring_110 : decode cX12_ring 110 = .ok (.iload 5, 2) := by decide +kernel
theorem dX12_ring_112 : decode cX12_ring 112 = .ok (.iload 4, 2) := by decide +kernel
theorem dX12_ring_114 : decode cX12_ring 114 = .ok (.if_icmp .ge 41, 3) := by decide +kernel
theorem dX12_ring_117 : decode cX12_ring 117 = .ok (.aload_n 0, 1) := by decide +kernel
theorem dX12_ring_118 : decode cX12_ring 118 = .ok (.getfield 85, 3) := by decide +kernel
theorem dX12_ring_121 : decode cX12_ring 121 = .ok (.iload 5, 2) := by decide +kernel
theorem dX12_ring_123 : decode cX12_ring 123 = .ok (.iaload, 1) := by decide +kernel
theorem dX12_ring_124 : decode cX12_ring 124 = .ok (.aload_n 0, 1) := by decide +kernel
theorem dX12_ring_125 : decode cX12_ring 125 = .ok (.getfield 85, 3) := by decide +kernel
theorem dX12_ring_128 : decode cX12_ring 128 = .ok (.iload 4, 2) := by decide +kernel
theorem dX12_ring_130 : decode cX12_ring 130 = .ok (.iaload, 1) := by decide +kernel
theorem dX12_ring_131 : decode cX12_ring 131 = .ok (.if_icmp .ne 18, 3) := by decide +kernel
theorem dX12_ring_134 : decode cX12_ring 134 = .ok (.iload_n 3, 1) := by decide +kernel
theorem dX12_ring_135 : decode cX12_ring 135 = .ok (.ifCond .ne 8, 3) := by decide +kernel
theorem dX12_ring_138 : decode cX12_ring 138 = .ok (.iload 4, 2) := by decide +kernel
theorem dX12_ring_140 : decode cX12_ring 140 = .ok (.goto 8, 3) := by decide +kernel
theorem dX12_ring_143 : decode cX12_ring 143 = .ok (.iload 4, 2) := by decide +kernel
theorem dX12_ring_145 : decode cX12_ring 145 = .ok (.iload 5, 2) := by decide +kernel
theorem dX12_ring_147 : decode cX12_ring 147 = .ok (.isub, 1) := by decide +kernel
theorem dX12_ring_148 : decode cX12_ring 148 = .ok (.ireturn, 1) := by decide +kernel
theorem dX12_ring_149 : decode cX12_ring 149 = .ok (.iinc 5 1, 3) := by decide +kernel
theorem dX12_ring_152 : decode cX12_ring 152 = .ok (.goto (-42), 3) := by decide +kernel
theorem dX12_ring_155 : decode cX12_ring 155 = .ok (.iinc 4 1, 3) := by decide +kernel
theorem dX12_ring_158 : decode cX12_ring 158 = .ok (.goto (-96), 3) := by decide +kernel
theorem dX12_ring_161 : decode cX12_ring 161 = .ok (.iconst (-1), 1) := by decide +kernel
theorem dX12_ring_162 : decode cX12_ring 162 = .ok (.ireturn, 1) := by decide +kernel
theorem dX12_fitsBy_0 : decode cX12_fitsBy 0 = .ok (.iconst 1, 1) := by decide +kernel
theorem dX12_fitsBy_1 : decode cX12_fitsBy 1 = .ok (.istore_n 2, 1) := by decide +kernel
theorem dX12_fitsBy_2 : decode cX12_fitsBy 2 = .ok (.iconst 0, 1) := by decide +kernel
theorem dX12_fitsBy_3 : decode cX12_fitsBy 3 = .ok (.istore_n 3, 1) := by decide +kernel
theorem dX12_fitsBy_4 : decode cX12_fitsBy 4 = .ok (.iload_n 3, 1) := by decide +kernel
theorem dX12_fitsBy_5 : decode cX12_fitsBy 5 = .ok (.aload_n 0, 1) := by decide +kernel
theorem dX12_fitsBy_6 : decode cX12_fitsBy 6 = .ok (.getfield 187, 3) := by decide +kernel
theorem dX12_fitsBy_9 : decode cX12_fitsBy 9 = .ok (.if_icmp .ge 59, 3) := by decide +kernel
theorem dX12_fitsBy_12 : decode cX12_fitsBy 12 = .ok (.iload_n 2, 1) := by decide +kernel
theorem dX12_fitsBy_13 : decode cX12_fitsBy 13 = .ok (.ifCond .eq 55, 3) := by decide +kernel
theorem dX12_fitsBy_16 : decode cX12_fitsBy 16 = .ok (.aload_n 0, 1) := by decide +kernel
theorem dX12_fitsBy_17 : decode cX12_fitsBy 17 = .ok (.aload_n 0, 1) := by decide +kernel
theorem dX12_fitsBy_18 : decode cX12_fitsBy 18 = .ok (.getfield 67, 3) := by decide +kernel
theorem dX12_fitsBy_21 : decode cX12_fitsBy 21 = .ok (.iload_n 1, 1) := by decide +kernel
theorem dX12_fitsBy_22 : decode cX12_fitsBy 22 = .ok (.invokevirtual 286, 3) := by decide +kernel
theorem dX12_fitsBy_25 : decode cX12_fitsBy 25 = .ok (.ifCond .ne 35, 3) := by decide +kernel
theorem dX12_fitsBy_28 : decode cX12_fitsBy 28 = .ok (.aload_n 0, 1) := by decide +kernel
theorem dX12_fitsBy_29 : decode cX12_fitsBy 29 = .ok (.aload_n 0, 1) := by decide +kernel
theorem dX12_fitsBy_30 : decode cX12_fitsBy 30 = .ok (.getfield 67, 3) := by decide +kernel
theorem dX12_fitsBy_33 : decode cX12_fitsBy 33 = .ok (.iload_n 1, 1) := by decide +kernel
theorem dX12_fitsBy_34 : decode cX12_fitsBy 34 = .ok (.aload_n 0, 1) := by decide +kernel
theorem dX12_fitsBy_35 : decode cX12_fitsBy 35 = .ok (.getfield 46, 3) := by decide +kernel
theorem dX12_fitsBy_38 : decode cX12_fitsBy 38 = .ok (.iload_n 3, 1) := by decide +kernel
theorem dX12_fitsBy_39 : decode cX12_fitsBy 39 = .ok (.aaload, 1) := by decide +kernel
theorem dX12_fitsBy_40 : decode cX12_fitsBy 40 = .ok (.iconst 0, 1) := by decide +kernel
theorem dX12_fitsBy_41 : decode cX12_fitsBy 41 = .ok (.iaload, 1) := by decide +kernel
theorem dX12_fitsBy_42 : decode cX12_fitsBy 42 = .ok (.invokevirtual 290, 3) := by decide +kernel
theorem dX12_fitsBy_45 : decode cX12_fitsBy 45 = .ok (.aload_n 0, 1) := by decide +kernel
theorem dX12_fitsBy_46 : decode cX12_fitsBy 46 = .ok (.getfield 46, 3) := by decide +kernel
theorem dX12_fitsBy_49 : decode cX12_fitsBy 49 = .ok (.iload_n 3, 1) := by decide +kernel
theorem dX12_fitsBy_50 : decode cX12_fitsBy 50 = .ok (.aaload, 1) := by decide +kernel
theorem dX12_fitsBy_51 : decode cX12_fitsBy 51 = .ok (.iconst 1, 1) := by decide +kernel
theorem dX12_fitsBy_52 : decode cX12_fitsBy 52 = .ok (.iaload, 1) := by decide +kernel
theorem dX12_fitsBy_53 : decode cX12_fitsBy 53 = .ok (.if_icmp .ne 7, 3) := by decide +kernel
theorem dX12_fitsBy_56 : decode cX12_fitsBy 56 = .ok (.iconst 1, 1) := by decide +kernel
theorem dX12_fitsBy_57 : decode cX12_fitsBy 57 = .ok (.goto 4, 3) := by decide +kernel
theorem dX12_fitsBy_60 : decode cX12_fitsBy 60 = .ok (.iconst 0, 1) := by decide +kernel
theorem dX12_fitsBy_61 : decode cX12_fitsBy 61 = .ok (.istore_n 2, 1) := by decide +kernel
theorem dX12_fitsBy_62 : decode cX12_fitsBy 62 = .ok (.iinc 3 1, 3) := by decide +kernel
theorem dX12_fitsBy_65 : decode cX12_fitsBy 65 = .ok (.goto (-61), 3) := by decide +kernel
theorem dX12_fitsBy_68 : decode cX12_fitsBy 68 = .ok (.iload_n 2, 1) := by decide +kernel
theorem dX12_fitsBy_69 : decode cX12_fitsBy 69 = .ok (.ireturn, 1) := by decide +kernel
theorem dX12_fits_0 : decode cX12_fits 0 = .ok (.aload_n 0, 1) := by decide +kernel
theorem dX12_fits_1 : decode cX12_fits 1 = .ok (.iconst 0, 1) := by decide +kernel
theorem dX12_fits_2 : decode cX12_fits 2 = .ok (.putfield 94, 3) := by decide +kernel
theorem dX12_fits_5 : decode cX12_fits 5 = .ok (.iconst 0, 1) := by decide +kernel
theorem dX12_fits_6 : decode cX12_fits 6 = .ok (.istore_n 1, 1) := by decide +kernel
theorem dX12_fits_7 : decode cX12_fits 7 = .ok (.iconst 0, 1) := by decide +kernel
theorem dX12_fits_8 : decode cX12_fits 8 = .ok (.istore_n 2, 1) := by decide +kernel
theorem dX12_fits_9 : decode cX12_fits 9 = .ok (.iload_n 2, 1) := by decide +kernel
theorem dX12_fits_10 : decode cX12_fits 10 = .ok (.aload_n 0, 1) := by decide +kernel
theorem dX12_fits_11 : decode cX12_fits 11 = .ok (.getfield 23, 3) := by decide +kernel
theorem dX12_fits_14 : decode cX12_fits 14 = .ok (.iconst 0, 1) := by decide +kernel
theorem dX12_fits_15 : decode cX12_fits 15 = .ok (.iaload, 1) := by decide +kernel
theorem dX12_fits_16 : decode cX12_fits 16 = .ok (.if_icmp .ge 27, 3) := by decide +kernel
theorem dX12_fits_19 : decode cX12_fits 19 = .ok (.iload_n 1, 1) := by decide +kernel
theorem dX12_fits_20 : decode cX12_fits 20 = .ok (.aload_n 0, 1) := by decide +kernel
theorem dX12_fits_21 : decode cX12_fits 21 = .ok (.iload_n 2, 1) := by decide +kernel
theorem dX12_fits_22 : decode cX12_fits 22 = .ok (.invokevirtual 404, 3) := by decide +kernel
theorem dX12_fits_25 : decode cX12_fits 25 = .ok (.ifCond .eq 9, 3) := by decide +kernel
theorem dX12_fits_28 : decode cX12_fits 28 = .ok (.iconst 1, 1) := by decide +kernel
theorem dX12_fits_29 : decode cX12_fits 29 = .ok (.iload_n 2, 1) := by decide +kernel
theorem dX12_fits_30 : decode cX12_fits 30 = .ok (.ishl, 1) := by decide +kernel
theorem dX12_fits_31 : decode cX12_fits 31 = .ok (.goto 4, 3) := by decide +kernel
theorem dX12_fits_34 : decode cX12_fits 34 = .ok (.iconst 0, 1) := by decide +kernel
theorem dX12_fits_35 : decode cX12_fits 35 = .ok (.ior, 1) := by decide +kernel
theorem dX12_fits_36 : decode cX12_fits 36 = .ok (.istore_n 1, 1) := by decide +kernel
theorem dX12_fits_37 : decode cX12_fits 37 = .ok (.iinc 2 1, 3) := by decide +kernel
theorem dX12_fits_40 : decode cX12_fits 40 = .ok (.goto (-31), 3) := by decide +kernel
theorem dX12_fits_43 : decode cX12_fits 43 = .ok (.iload_n 1, 1) := by decide +kernel
theorem dX12_fits_44 : decode cX12_fits 44 = .ok (.ireturn, 1) := by decide +kernel
theorem dX12_areAlikeAt_0 : decode cX12_areAlikeAt 0 = .ok (.aload_n 0, 1) := by decide +kernel
theorem dX12_areAlikeAt_1 : decode cX12_areAlikeAt 1 = .ok (.aload_n 0, 1) := by decide +kernel
theorem dX12_areAlikeAt_2 : decode cX12_areAlikeAt 2 = .ok (.getfield 67, 3) := by decide +kernel
theorem dX12_areAlikeAt_5 : decode cX12_areAlikeAt 5 = .ok (.iload_n 1, 1) := by decide +kernel
theorem dX12_areAlikeAt_6 : decode cX12_areAlikeAt 6 = .ok (.invokevirtual 286, 3) := by decide +kernel
theorem dX12_areAlikeAt_9 : decode cX12_areAlikeAt 9 = .ok (.ifCond .ne 15, 3) := by decide +kernel
theorem dX12_areAlikeAt_12 : decode cX12_areAlikeAt 12 = .ok (.aload_n 0, 1) := by decide +kernel
theorem dX12_areAlikeAt_13 : decode cX12_areAlikeAt 13 = .ok (.aload_n 0, 1) := by decide +kernel
theorem dX12_areAlikeAt_14 : decode cX12_areAlikeAt 14 = .ok (.getfield 67, 3) := by decide +kernel
theorem dX12_areAlikeAt_17 : decode cX12_areAlikeAt 17 = .ok (.iload_n 2, 1) := by decide +kernel
theorem dX12_areAlikeAt_18 : decode cX12_areAlikeAt 18 = .ok (.invokevirtual 286, 3) := by decide +kernel
theorem dX12_areAlikeAt_21 : decode cX12_areAlikeAt 21 = .ok (.ifCond .eq 35, 3) := by decide +kernel
theorem dX12_areAlikeAt_24 : decode cX12_areAlikeAt 24 = .ok (.aload_n 0, 1) := by decide +kernel
theorem dX12_areAlikeAt_25 : decode cX12_areAlikeAt 25 = .ok (.aload_n 0, 1) := by decide +kernel
theorem dX12_areAlikeAt_26 : decode cX12_areAlikeAt 26 = .ok (.getfield 67, 3) := by decide +kernel
theorem dX12_areAlikeAt_29 : decode cX12_areAlikeAt 29 = .ok (.iload_n 1, 1) := by decide +kernel
theorem dX12_areAlikeAt_30 : decode cX12_areAlikeAt 30 = .ok (.invokevirtual 286, 3) := by decide +kernel
theorem dX12_areAlikeAt_33 : decode cX12_areAlikeAt 33 = .ok (.ifCond .eq 19, 3) := by decide +kernel
theorem dX12_areAlikeAt_36 : decode cX12_areAlikeAt 36 = .ok (.aload_n 0, 1) := by decide +kernel
theorem dX12_areAlikeAt_37 : decode cX12_areAlikeAt 37 = .ok (.aload_n 0, 1) := by decide +kernel
theorem dX12_areAlikeAt_38 : decode cX12_areAlikeAt 38 = .ok (.getfield 67, 3) := by decide +kernel
theorem dX12_areAlikeAt_41 : decode cX12_areAlikeAt 41 = .ok (.iload_n 2, 1) := by decide +kernel
theorem dX12_areAlikeAt_42 : decode cX12_areAlikeAt 42 = .ok (.invokevirtual 286, 3) := by decide +kernel
theorem dX12_areAlikeAt_45 : decode cX12_areAlikeAt 45 = .ok (.ifCond .eq 7, 3) := by decide +kernel
theorem dX12_areAlikeAt_48 : decode cX12_areAlikeAt 48 = .ok (.iconst 1, 1) := by decide +kernel
theorem dX12_areAlikeAt_49 : decode cX12_areAlikeAt 49 = .ok (.goto 35, 3) := by decide +kernel
theorem dX12_areAlikeAt_52 : decode cX12_areAlikeAt 52 = .ok (.iconst 0, 1) := by decide +kernel
theorem dX12_areAlikeAt_53 : decode cX12_areAlikeAt 53 = .ok (.goto 31, 3) := by decide +kernel
theorem dX12_areAlikeAt_56 : decode cX12_areAlikeAt 56 = .ok (.aload_n 0, 1) := by decide +kernel
theorem dX12_areAlikeAt_57 : decode cX12_areAlikeAt 57 = .ok (.aload_n 0, 1) := by decide +kernel
theorem dX12_areAlikeAt_58 : decode cX12_areAlikeAt 58 = .ok (.getfield 67, 3) := by decide +kernel
theorem dX12_areAlikeAt_61 : decode cX12_areAlikeAt 61 = .ok (.iload_n 1, 1) := by decide +kernel
theorem dX12_areAlikeAt_62 : decode cX12_areAlikeAt 62 = .ok (.iload_n 3, 1) := by decide +kernel
theorem dX12_areAlikeAt_63 : decode cX12_areAlikeAt 63 = .ok (.invokevirtual 290, 3) := by decide +kernel
theorem dX12_areAlikeAt_66 : decode cX12_areAlikeAt 66 = .ok (.aload_n 0, 1) := by decide +kernel
theorem dX12_areAlikeAt_67 : decode cX12_areAlikeAt 67 = .ok (.aload_n 0, 1) := by decide +kernel
theorem dX12_areAlikeAt_68 : decode cX12_areAlikeAt 68 = .ok (.getfield 67, 3) := by decide +kernel
theorem dX12_areAlikeAt_71 : decode cX12_areAlikeAt 71 = .ok (.iload_n 2, 1) := by decide +kernel
theorem dX12_areAlikeAt_72 : decode cX12_areAlikeAt 72 = .ok (.iload_n 3, 1) := by decide +kernel
theorem dX12_areAlikeAt_73 : decode cX12_areAlikeAt 73 = .ok (.invokevirtual 290, 3) := by decide +kernel
theorem dX12_areAlikeAt_76 : decode cX12_areAlikeAt 76 = .ok (.if_icmp .ne 7, 3) := by decide +kernel
theorem dX12_areAlikeAt_79 : decode cX12_areAlikeAt 79 = .ok (.iconst 1, 1) := by decide +kernel
theorem dX12_areAlikeAt_80 : decode cX12_areAlikeAt 80 = .ok (.goto 4, 3) := by decide +kernel
theorem dX12_areAlikeAt_83 : decode cX12_areAlikeAt 83 = .ok (.iconst 0, 1) := by decide +kernel
theorem dX12_areAlikeAt_84 : decode cX12_areAlikeAt 84 = .ok (.ireturn, 1) := by decide +kernel
theorem dX12_worstAt_0 : decode cX12_worstAt 0 = .ok (.iconst 0, 1) := by decide +kernel
theorem dX12_worstAt_1 : decode cX12_worstAt 1 = .ok (.istore_n 2, 1) := by decide +kernel
theorem dX12_worstAt_2 : decode cX12_worstAt 2 = .ok (.iconst 0, 1) := by decide +kernel
theorem dX12_worstAt_3 : decode cX12_worstAt 3 = .ok (.istore_n 3, 1) := by decide +kernel
theorem dX12_worstAt_4 : decode cX12_worstAt 4 = .ok (.iload_n 3, 1) := by decide +kernel
theorem dX12_worstAt_5 : decode cX12_worstAt 5 = .ok (.aload_n 0, 1) := by decide +kernel
theorem dX12_worstAt_6 : decode cX12_worstAt 6 = .ok (.getfield 23, 3) := by decide +kernel
theorem dX12_worstAt_9 : decode cX12_worstAt 9 = .ok (.iconst 0, 1) := by decide +kernel
theorem dX12_worstAt_10 : decode cX12_worstAt 10 = .ok (.iaload, 1) := by decide +kernel
theorem dX12_worstAt_11 : decode cX12_worstAt 11 = .ok (.if_icmp .ge 77, 3) := by decide +kernel
theorem dX12_worstAt_14 : decode cX12_worstAt 14 = .ok (.iconst 0, 1) := by decide +kernel
theorem dX12_worstAt_15 : decode cX12_worstAt 15 = .ok (.istore 4, 2) := by decide +kernel
theorem dX12_worstAt_17 : decode cX12_worstAt 17 = .ok (.iconst 0, 1) := by decide +kernel
theorem dX12_worstAt_18 : decode cX12_worstAt 18 = .ok (.istore 5, 2) := by decide +kernel
theorem dX12_worstAt_20 : decode cX12_worstAt 20 = .ok (.iload 5, 2) := by decide +kernel
theorem dX12_worstAt_22 : decode cX12_worstAt 22 = .ok (.aload_n 0, 1) := by decide +kernel
theorem dX12_worstAt_23 : decode cX12_worstAt 23 = .ok (.getfield 23, 3) := by decide +kernel
theorem dX12_worstAt_26 : decode cX12_worstAt 26 = .ok (.iconst 0, 1) := by decide +kernel
theorem dX12_worstAt_27 : decode cX12_worstAt 27 = .ok (.iaload, 1) := by decide +kernel
theorem dX12_worstAt_28 : decode cX12_worstAt 28 = .ok (.if_icmp .ge 47, 3) := by decide +kernel
theorem dX12_worstAt_31 : decode cX12_worstAt 31 = .ok (.iload 4, 2) := by decide +kernel
theorem dX12_worstAt_33 : decode cX12_worstAt 33 = .ok (.aload_n 0, 1) := by decide +kernel
theorem dX12_worstAt_34 : decode cX12_worstAt 34 = .ok (.iload_n 3, 1) := by decide +kernel
theorem dX12_worstAt_35 : decode cX12_worstAt 35 = .ok (.invokevirtual 404, 3) := by decide +kernel
theorem dX12_worstAt_38 : decode cX12_worstAt 38 = .ok (.ifCond .eq 27, 3) := by decide +kernel
theorem dX12_worstAt_41 : decode cX12_worstAt 41 = .ok (.aload_n 0, 1) := by decide +kernel
theorem dX12_worstAt_42 : decode cX12_worstAt 42 = .ok (.iload 5, 2) := by decide +kernel
theorem dX12_worstAt_44 : decode cX12_worstAt 44 = .ok (.invokevirtual 404, 3) := by decide +kernel
theorem dX12_worstAt_47 : decode cX12_worstAt 47 = .ok (.ifCond .eq 18, 3) := by decide +kernel
theorem dX12_worstAt_50 : decode cX12_worstAt 50 = .ok (.aload_n 0, 1) := by decide +kernel
theorem dX12_worstAt_51 : decode cX12_worstAt 51 = .ok (.iload_n 3, 1) := by decide +kernel
theorem dX12_worstAt_52 : decode cX12_worstAt 52 = .ok (.iload 5, 2) := by decide +kernel
theorem dX12_worstAt_54 : decode cX12_worstAt 54 = .ok (.iload_n 1, 1) := by decide +kernel
theorem dX12_worstAt_55 : decode cX12_worstAt 55 = .ok (.invokevirtual 407, 3) := by decide +kernel
theorem dX12_worstAt_58 : decode cX12_worstAt 58 = .ok (.ifCond .eq 7, 3) := by decide +kernel
theorem dX12_worstAt_61 : decode cX12_worstAt 61 = .ok (.iconst 1, 1) := by decide +kernel
theorem dX12_worstAt_62 : decode cX12_worstAt 62 = .ok (.goto 4, 3) := by decide +kernel
theorem dX12_worstAt_65 : decode cX12_worstAt 65 = .ok (.iconst 0, 1) := by decide +kernel
theorem dX12_worstAt_66 : decode cX12_worstAt 66 = .ok (.iadd, 1) := by decide +kernel
theorem dX12_worstAt_67 : decode cX12_worstAt 67 = .ok (.istore 4, 2) := by decide +kernel
theorem dX12_worstAt_69 : decode cX12_worstAt 69 = .ok (.iinc 5 1, 3) := by decide +kernel
theorem dX12_worstAt_72 : decode cX12_worstAt 72 = .ok (.goto (-52), 3) := by decide +kernel
theorem dX12_worstAt_75 : decode cX12_worstAt 75 = .ok (.iload_n 2, 1) := by decide +kernel
theorem dX12_worstAt_76 : decode cX12_worstAt 76 = .ok (.iload 4, 2) := by decide +kernel
theorem dX12_worstAt_78 : decode cX12_worstAt 78 = .ok (.invokestatic 237, 3) := by decide +kernel
theorem dX12_worstAt_81 : decode cX12_worstAt 81 = .ok (.istore_n 2, 1) := by decide +kernel
theorem dX12_worstAt_82 : decode cX12_worstAt 82 = .ok (.iinc 3 1, 3) := by decide +kernel
theorem dX12_worstAt_85 : decode cX12_worstAt 85 = .ok (.goto (-81), 3) := by decide +kernel
theorem dX12_worstAt_88 : decode cX12_worstAt 88 = .ok (.iload_n 2, 1) := by decide +kernel
theorem dX12_worstAt_89 : decode cX12_worstAt 89 = .ok (.ireturn, 1) := by decide +kernel
theorem dX12_look_0 : decode cX12_look 0 = .ok (.aload_n 0, 1) := by decide +kernel
theorem dX12_look_1 : decode cX12_look 1 = .ok (.iconst 0, 1) := by decide +kernel
theorem dX12_look_2 : decode cX12_look 2 = .ok (.putfield 94, 3) := by decide +kernel
theorem dX12_look_5 : decode cX12_look 5 = .ok (.aload_n 0, 1) := by decide +kernel
theorem dX12_look_6 : decode cX12_look 6 = .ok (.iload_n 1, 1) := by decide +kernel
theorem dX12_look_7 : decode cX12_look 7 = .ok (.iconst 0, 1) := by decide +kernel
theorem dX12_look_8 : decode cX12_look 8 = .ok (.iconst 1, 1) := by decide +kernel
theorem dX12_look_9 : decode cX12_look 9 = .ok (.invokestatic 128, 3) := by decide +kernel
theorem dX12_look_12 : decode cX12_look 12 = .ok (.ifCond .ne 7, 3) := by decide +kernel
theorem dX12_look_15 : decode cX12_look 15 = .ok (.iconst 1, 1) := by decide +kernel
theorem dX12_look_16 : decode cX12_look 16 = .ok (.goto 4, 3) := by decide +kernel
theorem dX12_look_19 : decode cX12_look 19 = .ok (.iconst 0, 1) := by decide +kernel
theorem dX12_look_20 : decode cX12_look 20 = .ok (.iconst 1, 1) := by decide +kernel
theorem dX12_look_21 : decode cX12_look 21 = .ok (.iconst 1, 1) := by decide +kernel
theorem dX12_look_22 : decode cX12_look 22 = .ok (.invokevirtual 167, 3) := by decide +kernel
theorem dX12_look_25 : decode cX12_look 25 = .ok (.ifCond .eq 5, 3) := by decide +kernel
theorem dX12_look_28 : decode cX12_look 28 = .ok (.iconst 0, 1) := by decide +kernel
theorem dX12_look_29 : decode cX12_look 29 = .ok (.ireturn, 1) := by decide +kernel
theorem dX12_look_30 : decode cX12_look 30 = .ok (.iconst (-1), 1) := by decide +kernel
theorem dX12_look_31 : decode cX12_look 31 = .ok (.istore_n 2, 1) := by decide +kernel
theorem dX12_look_32 : decode cX12_look 32 = .ok (.iconst (-1), 1) := by decide +kernel
theorem dX12_look_33 : decode cX12_look 33 = .ok (.istore_n 3, 1) := by decide +kernel
theorem dX12_look_34 : decode cX12_look 34 = .ok (.iconst 0, 1) := by decide +kernel
theorem dX12_look_35 : decode cX12_look 35 = .ok (.istore 4, 2) := by decide +kernel
theorem dX12_look_37 : decode cX12_look 37 = .ok (.iload 4, 2) := by decide +kernel
theorem dX12_look_39 : decode cX12_look 39 = .ok (.bipush 99, 2) := by decide +kernel
theorem dX12_look_41 : decode cX12_look 41 = .ok (.if_icmp .gt 42, 3) := by decide +kernel
theorem dX12_look_44 : decode cX12_look 44 = .ok (.aload_n 0, 1) := by decide +kernel
theorem dX12_look_45 : decode cX12_look 45 = .ok (.iload 4, 2) := by decide +kernel
theorem dX12_look_47 : decode cX12_look 47 = .ok (.invokevirtual 410, 3) := by decide +kernel
theorem dX12_look_50 : decode cX12_look 50 = .ok (.istore 5, 2) := by decide +kernel
theorem dX12_look_52 : decode cX12_look 52 = .ok (.iload 5, 2) := by decide +kernel
theorem dX12_look_54 : decode cX12_look 54 = .ok (.ifCond .eq 23, 3) := by decide +kernel
theorem dX12_look_57 : decode cX12_look 57 = .ok (.iload_n 2, 1) := by decide +kernel
theorem dX12_look_58 : decode cX12_look 58 = .ok (.iconst (-1), 1) := by decide +kernel
theorem dX12_look_59 : decode cX12_look 59 = .ok (.if_icmp .eq 12, 3) := by decide +kernel
theorem dX12_look_62 : decode cX12_look 62 = .ok (.iload 5, 2) := by decide +kernel
theorem dX12_look_64 : decode cX12_look 64 = .ok (.iload_n 3, 1) := by decide +kernel
theorem dX12_look_65 : decode cX12_look 65 = .ok (.if_icmp .lt 6, 3) := by decide +kernel
theorem dX12_look_68 : decode cX12_look 68 = .ok (.goto 9, 3) := by decide +kernel
theorem dX12_look_71 : decode cX12_look 71 = .ok (.iload 4, 2) := by decide +kernel
theorem dX12_look_73 : decode cX12_look 73 = .ok (.istore_n 2, 1) := by decide +kernel
theorem dX12_look_74 : decode cX12_look 74 = .ok (.iload 5, 2) := by decide +kernel
theorem dX12_look_76 : decode cX12_look 76 = .ok (.istore_n 3, 1) := by decide +kernel
theorem dX12_look_77 : decode cX12_look 77 = .ok (.iinc 4 1, 3) := by decide +kernel
theorem dX12_look_80 : decode cX12_look 80 = .ok (.goto (-43), 3) := by decide +kernel
theorem dX12_look_83 : decode cX12_look 83 = .ok (.iload_n 1, 1) := by decide +kernel
theorem dX12_look_84 : decode cX12_look 84 = .ok (.ifCond .ne 7, 3) := by decide +kernel
theorem dX12_look_87 : decode cX12_look 87 = .ok (.iload_n 2, 1) := by decide +kernel
theorem dX12_look_88 : decode cX12_look 88 = .ok (.goto 4, 3) := by decide +kernel
theorem dX12_look_91 : decode cX12_look 91 = .ok (.iload_n 3, 1) := by decide +kernel
theorem dX12_look_92 : decode cX12_look 92 = .ok (.ireturn, 1) := by decide +kernel
theorem dX12_ready_0 : decode cX12_ready 0 = .ok (.aload_n 0, 1) := by decide +kernel
theorem dX12_ready_1 : decode cX12_ready 1 = .ok (.iconst 0, 1) := by decide +kernel
theorem dX12_ready_2 : decode cX12_ready 2 = .ok (.putfield 94, 3) := by decide +kernel
theorem dX12_ready_5 : decode cX12_ready 5 = .ok (.iconst 0, 1) := by decide +kernel
theorem dX12_ready_6 : decode cX12_ready 6 = .ok (.istore_n 2, 1) := by decide +kernel
theorem dX12_ready_7 : decode cX12_ready 7 = .ok (.iconst 0, 1) := by decide +kernel
theorem dX12_ready_8 : decode cX12_ready 8 = .ok (.istore_n 3, 1) := by decide +kernel
theorem dX12_ready_9 : decode cX12_ready 9 = .ok (.iload_n 3, 1) := by decide +kernel
theorem dX12_ready_10 : decode cX12_ready 10 = .ok (.aload_n 0, 1) := by decide +kernel
theorem dX12_ready_11 : decode cX12_ready 11 = .ok (.getfield 23, 3) := by decide +kernel
theorem dX12_ready_14 : decode cX12_ready 14 = .ok (.iconst 0, 1) := by decide +kernel
theorem dX12_ready_15 : decode cX12_ready 15 = .ok (.iaload, 1) := by decide +kernel
theorem dX12_ready_16 : decode cX12_ready 16 = .ok (.if_icmp .ge 31, 3) := by decide +kernel
theorem dX12_ready_19 : decode cX12_ready 19 = .ok (.iload_n 2, 1) := by decide +kernel
theorem dX12_ready_20 : decode cX12_ready 20 = .ok (.aload_n 0, 1) := by decide +kernel
theorem dX12_ready_21 : decode cX12_ready 21 = .ok (.aload_n 0, 1) := by decide +kernel
theorem dX12_ready_22 : decode cX12_ready 22 = .ok (.getfield 67, 3) := by decide +kernel
theorem dX12_ready_25 : decode cX12_ready 25 = .ok (.iload_n 3, 1) := by decide +kernel
theorem dX12_ready_26 : decode cX12_ready 26 = .ok (.invokevirtual 304, 3) := by decide +kernel
theorem dX12_ready_29 : decode cX12_ready 29 = .ok (.ifCond .eq 9, 3) := by decide +kernel
theorem dX12_ready_32 : decode cX12_ready 32 = .ok (.iconst 1, 1) := by decide +kernel
theorem dX12_ready_33 : decode cX12_ready 33 = .ok (.iload_n 3, 1) := by decide +kernel
theorem dX12_ready_34 : decode cX12_ready 34 = .ok (.ishl, 1) := by decide +kernel
theorem dX12_ready_35 : decode cX12_ready 35 = .ok (.goto 4, 3) := by decide +kernel
theorem dX12_ready_38 : decode cX12_ready 38 = .ok (.iconst 0, 1) := by decide +kernel
theorem dX12_ready_39 : decode cX12_ready 39 = .ok (.ior, 1) := by decide +kernel
theorem dX12_ready_40 : decode cX12_ready 40 = .ok (.istore_n 2, 1) := by decide +kernel
theorem dX12_ready_41 : decode cX12_ready 41 = .ok (.iinc 3 1, 3) := by decide +kernel
theorem dX12_ready_44 : decode cX12_ready 44 = .ok (.goto (-35), 3) := by decide +kernel
theorem dX12_ready_47 : decode cX12_ready 47 = .ok (.iload_n 2, 1) := by decide +kernel
theorem dX12_ready_48 : decode cX12_ready 48 = .ok (.ireturn, 1) := by decide +kernel
theorem dX12_latest_0 : decode cX12_latest 0 = .ok (.aload_n 0, 1) := by decide +kernel
theorem dX12_latest_1 : decode cX12_latest 1 = .ok (.iconst 0, 1) := by decide +kernel
theorem dX12_latest_2 : decode cX12_latest 2 = .ok (.putfield 94, 3) := by decide +kernel
theorem dX12_latest_5 : decode cX12_latest 5 = .ok (.aload_n 0, 1) := by decide +kernel
theorem dX12_latest_6 : decode cX12_latest 6 = .ok (.aload_n 0, 1) := by decide +kernel
theorem dX12_latest_7 : decode cX12_latest 7 = .ok (.iload_n 1, 1) := by decide +kernel
theorem dX12_latest_8 : decode cX12_latest 8 = .ok (.invokevirtual 355, 3) := by decide +kernel
theorem dX12_latest_11 : decode cX12_latest 11 = .ok (.ifCond .ne 7, 3) := by decide +kernel
theorem dX12_latest_14 : decode cX12_latest 14 = .ok (.iconst 1, 1) := by decide +kernel
theorem dX12_latest_15 : decode cX12_latest 15 = .ok (.goto 4, 3) := by decide +kernel
theorem dX12_latest_18 : decode cX12_latest 18 = .ok (.iconst 0, 1) := by decide +kernel
theorem dX12_latest_19 : decode cX12_latest 19 = .ok (.iconst 1, 1) := by decide +kernel
theorem dX12_latest_20 : decode cX12_latest 20 = .ok (.iconst 0, 1) := by decide +kernel
theorem dX12_latest_21 : decode cX12_latest 21 = .ok (.invokevirtual 167, 3) := by decide +kernel
theorem dX12_latest_24 : decode cX12_latest 24 = .ok (.ifCond .ne 56, 3) := by decide +kernel
theorem dX12_latest_27 : decode cX12_latest 27 = .ok (.aload_n 0, 1) := by decide +kernel
theorem dX12_latest_28 : decode cX12_latest 28 = .ok (.aload_n 0, 1) := by decide +kernel
theorem dX12_latest_29 : decode cX12_latest 29 = .ok (.getfield 67, 3) := by decide +kernel
theorem dX12_latest_32 : decode cX12_latest 32 = .ok (.bipush 16, 2) := by decide +kernel
theorem dX12_latest_34 : decode cX12_latest 34 = .ok (.iload_n 1, 1) := by decide +kernel
theorem dX12_latest_35 : decode cX12_latest 35 = .ok (.iadd, 1) := by decide +kernel
theorem dX12_latest_36 : decode cX12_latest 36 = .ok (.iaload, 1) := by decide +kernel
theorem dX12_latest_37 : decode cX12_latest 37 = .ok (.iconst (-1), 1) := by decide +kernel
theorem dX12_latest_38 : decode cX12_latest 38 = .ok (.if_icmp .ne 7, 3) := by decide +kernel
theorem dX12_latest_41 : decode cX12_latest 41 = .ok (.iconst 1, 1) := by decide +kernel
theorem dX12_latest_42 : decode cX12_latest 42 = .ok (.goto 4, 3) := by decide +kernel
theorem dX12_latest_45 : decode cX12_latest 45 = .ok (.iconst 0, 1) := by decide +kernel
theorem dX12_latest_46 : decode cX12_latest 46 = .ok (.iconst 2, 1) := by decide +kernel
theorem dX12_latest_47 : decode cX12_latest 47 = .ok (.iconst 2, 1) := by decide +kernel
theorem dX12_latest_48 : decode cX12_latest 48 = .ok (.invokevirtual 167, 3) := by decide +kernel
theorem dX12_latest_51 : decode cX12_latest 51 = .ok (.ifCond .ne 29, 3) := by decide +kernel
theorem dX12_latest_54 : decode cX12_latest 54 = .ok (.aload_n 0, 1) := by decide +kernel
theorem dX12_latest_55 : decode cX12_latest 55 = .ok (.aload_n 0, 1) := by decide +kernel
theorem dX12_latest_56 : decode cX12_latest 56 = .ok (.getfield 67, 3) := by decide +kernel
theorem dX12_latest_59 : decode cX12_latest 59 = .ok (.bipush 24, 2) := by decide +kernel
theorem dX12_latest_61 : decode cX12_latest 61 = .ok (.iload_n 1, 1) := by decide +kernel
theorem dX12_latest_62 : decode cX12_latest 62 = .ok (.iadd, 1) := by decide +kernel
theorem dX12_latest_63 : decode cX12_latest 63 = .ok (.iaload, 1) := by decide +kernel
theorem dX12_latest_64 : decode cX12_latest 64 = .ok (.ifCond .ne 7, 3) := by decide +kernel
theorem dX12_latest_67 : decode cX12_latest 67 = .ok (.iconst 1, 1) := by decide +kernel
theorem dX12_latest_68 : decode cX12_latest 68 = .ok (.goto 4, 3) := by decide +kernel
theorem dX12_latest_71 : decode cX12_latest 71 = .ok (.iconst 0, 1) := by decide +kernel
theorem dX12_latest_72 : decode cX12_latest 72 = .ok (.iconst 3, 1) := by decide +kernel
theorem dX12_latest_73 : decode cX12_latest 73 = .ok (.iconst 3, 1) := by decide +kernel
theorem dX12_latest_74 : decode cX12_latest 74 = .ok (.invokevirtual 167, 3) := by decide +kernel
theorem dX12_latest_77 : decode cX12_latest 77 = .ok (.ifCond .eq 5, 3) := by decide +kernel
theorem dX12_latest_80 : decode cX12_latest 80 = .ok (.iconst 0, 1) := by decide +kernel
theorem dX12_latest_81 : decode cX12_latest 81 = .ok (.ireturn, 1) := by decide +kernel
theorem dX12_latest_82 : decode cX12_latest 82 = .ok (.aload_n 0, 1) := by decide +kernel
theorem dX12_latest_83 : decode cX12_latest 83 = .ok (.aload_n 0, 1) := by decide +kernel
theorem dX12_latest_84 : decode cX12_latest 84 = .ok (.getfield 67, 3) := by decide +kernel
theorem dX12_latest_87 : decode cX12_latest 87 = .ok (.iload_n 1, 1) := by decide +kernel
theorem dX12_latest_88 : decode cX12_latest 88 = .ok (.aload_n 0, 1) := by decide +kernel
theorem dX12_latest_89 : decode cX12_latest 89 = .ok (.getfield 67, 3) := by decide +kernel
theorem dX12_latest_92 : decode cX12_latest 92 = .ok (.bipush 24, 2) := by decide +kernel
theorem dX12_latest_94 : decode cX12_latest 94 = .ok (.iload_n 1, 1) := by decide +kernel
theorem dX12_latest_95 : decode cX12_latest 95 = .ok (.iadd, 1) := by decide +kernel
theorem dX12_latest_96 : decode cX12_latest 96 = .ok (.iaload, 1) := by decide +kernel
theorem dX12_latest_97 : decode cX12_latest 97 = .ok (.iconst 1, 1) := by decide +kernel
theorem dX12_latest_98 : decode cX12_latest 98 = .ok (.isub, 1) := by decide +kernel
theorem dX12_latest_99 : decode cX12_latest 99 = .ok (.invokevirtual 310, 3) := by decide +kernel
theorem dX12_latest_102 : decode cX12_latest 102 = .ok (.ireturn, 1) := by decide +kernel
theorem dX12_alike_0 : decode cX12_alike 0 = .ok (.aload_n 0, 1) := by decide +kernel
theorem dX12_alike_1 : decode cX12_alike 1 = .ok (.iconst 0, 1) := by decide +kernel
theorem dX12_alike_2 : decode cX12_alike 2 = .ok (.putfield 94, 3) := by decide +kernel
theorem dX12_alike_5 : decode cX12_alike 5 = .ok (.aload_n 0, 1) := by decide +kernel
theorem dX12_alike_6 : decode cX12_alike 6 = .ok (.aload_n 0, 1) := by decide +kernel
theorem dX12_alike_7 : decode cX12_alike 7 = .ok (.iload_n 1, 1) := by decide +kernel
theorem dX12_alike_8 : decode cX12_alike 8 = .ok (.invokevirtual 355, 3) := by decide +kernel
theorem dX12_alike_11 : decode cX12_alike 11 = .ok (.ifCond .eq 11, 3) := by decide +kernel
theorem dX12_alike_14 : decode cX12_alike 14 = .ok (.aload_n 0, 1) := by decide +kernel
theorem dX12_alike_15 : decode cX12_alike 15 = .ok (.iload_n 2, 1) := by decide +kernel
theorem dX12_alike_16 : decode cX12_alike 16 = .ok (.invokevirtual 355, 3) := by decide +kernel
theorem dX12_alike_19 : decode cX12_alike 19 = .ok (.ifCond .ne 7, 3) := by decide +kernel
theorem dX12_alike_22 : decode cX12_alike 22 = .ok (.iconst 1, 1) := by decide +kernel
theorem dX12_alike_23 : decode cX12_alike 23 = .ok (.goto 4, 3) := by decide +kernel
theorem dX12_alike_26 : decode cX12_alike 26 = .ok (.iconst 0, 1) := by decide +kernel
theorem dX12_alike_27 : decode cX12_alike 27 = .ok (.iconst 1, 1) := by decide +kernel
theorem dX12_alike_28 : decode cX12_alike 28 = .ok (.iconst 0, 1) := by decide +kernel
theorem dX12_alike_29 : decode cX12_alike 29 = .ok (.invokevirtual 167, 3) := by decide +kernel
theorem dX12_alike_32 : decode cX12_alike 32 = .ok (.ifCond .eq 5, 3) := by decide +kernel
theorem dX12_alike_35 : decode cX12_alike 35 = .ok (.iconst 0, 1) := by decide +kernel
theorem dX12_alike_36 : decode cX12_alike 36 = .ok (.ireturn, 1) := by decide +kernel
theorem dX12_alike_37 : decode cX12_alike 37 = .ok (.aload_n 0, 1) := by decide +kernel
theorem dX12_alike_38 : decode cX12_alike 38 = .ok (.getfield 67, 3) := by decide +kernel
theorem dX12_alike_41 : decode cX12_alike 41 = .ok (.bipush 16, 2) := by decide +kernel
theorem dX12_alike_43 : decode cX12_alike 43 = .ok (.iload_n 1, 1) := by decide +kernel
theorem dX12_alike_44 : decode cX12_alike 44 = .ok (.iadd, 1) := by decide +kernel
theorem dX12_alike_45 : decode cX12_alike 45 = .ok (.iaload, 1) := by decide +kernel
theorem dX12_alike_46 : decode cX12_alike 46 = .ok (.iconst (-1), 1) := by decide +kernel
theorem dX12_alike_47 : decode cX12_alike 47 = .ok (.if_icmp .eq 68, 3) := by decide +kernel
theorem dX12_alike_50 : decode cX12_alike 50 = .ok (.aload_n 0, 1) := by decide +kernel
theorem dX12_alike_51 : decode cX12_alike 51 = .ok (.getfield 67, 3) := by decide +kernel
theorem dX12_alike_54 : decode cX12_alike 54 = .ok (.bipush 16, 2) := by decide +kernel
theorem dX12_alike_56 : decode cX12_alike 56 = .ok (.iload_n 1, 1) := by decide +kernel
theorem dX12_alike_57 : decode cX12_alike 57 = .ok (.iadd, 1) := by decide +kernel
theorem dX12_alike_58 : decode cX12_alike 58 = .ok (.iaload, 1) := by decide +kernel
theorem dX12_alike_59 : decode cX12_alike 59 = .ok (.aload_n 0, 1) := by decide +kernel
theorem dX12_alike_60 : decode cX12_alike 60 = .ok (.getfield 67, 3) := by decide +kernel
theorem dX12_alike_63 : decode cX12_alike 63 = .ok (.bipush 16, 2) := by decide +kernel
theorem dX12_alike_65 : decode cX12_alike 65 = .ok (.iload_n 2, 1) := by decide +kernel
theorem dX12_alike_66 : decode cX12_alike 66 = .ok (.iadd, 1) := by decide +kernel
theorem dX12_alike_67 : decode cX12_alike 67 = .ok (.iaload, 1) := by decide +kernel
theorem dX12_alike_68 : decode cX12_alike 68 = .ok (.if_icmp .ne 47, 3) := by decide +kernel
theorem dX12_alike_71 : decode cX12_alike 71 = .ok (.aload_n 0, 1) := by decide +kernel
theorem dX12_alike_72 : decode cX12_alike 72 = .ok (.getfield 31, 3) := by decide +kernel
theorem dX12_alike_75 : decode cX12_alike 75 = .ok (.iload_n 1, 1) := by decide +kernel
theorem dX12_alike_76 : decode cX12_alike 76 = .ok (.aaload, 1) := by decide +kernel
theorem dX12_alike_77 : decode cX12_alike 77 = .ok (.iconst 0, 1) := by decide +kernel
theorem dX12_alike_78 : decode cX12_alike 78 = .ok (.iaload, 1) := by decide +kernel
theorem dX12_alike_79 : decode cX12_alike 79 = .ok (.aload_n 0, 1) := by decide +kernel
theorem dX12_alike_80 : decode cX12_alike 80 = .ok (.getfield 31, 3) := by decide +kernel
theorem dX12_alike_83 : decode cX12_alike 83 = .ok (.iload_n 2, 1) := by decide +kernel
theorem dX12_alike_84 : decode cX12_alike 84 = .ok (.aaload, 1) := by decide +kernel
theorem dX12_alike_85 : decode cX12_alike 85 = .ok (.iconst 0, 1) := by decide +kernel
theorem dX12_alike_86 : decode cX12_alike 86 = .ok (.iaload, 1) := by decide +kernel
theorem dX12_alike_87 : decode cX12_alike 87 = .ok (.if_icmp .ne 28, 3) := by decide +kernel
theorem dX12_alike_90 : decode cX12_alike 90 = .ok (.aload_n 0, 1) := by decide +kernel
theorem dX12_alike_91 : decode cX12_alike 91 = .ok (.getfield 67, 3) := by decide +kernel
theorem dX12_alike_94 : decode cX12_alike 94 = .ok (.bipush 24, 2) := by decide +kernel
theorem dX12_alike_96 : decode cX12_alike 96 = .ok (.iload_n 1, 1) := by decide +kernel
theorem dX12_alike_97 : decode cX12_alike 97 = .ok (.iadd, 1) := by decide +kernel
theorem dX12_alike_98 : decode cX12_alike 98 = .ok (.iaload, 1) := by decide +kernel
theorem dX12_alike_99 : decode cX12_alike 99 = .ok (.aload_n 0, 1) := by decide +kernel
theorem dX12_alike_100 : decode cX12_alike 100 = .ok (.getfield 67, 3) := by decide +kernel
theorem dX12_alike_103 : decode cX12_alike 103 = .ok (.bipush 24, 2) := by decide +kernel
theorem dX12_alike_105 : decode cX12_alike 105 = .ok (.iload_n 2, 1) := by decide +kernel
theorem dX12_alike_106 : decode cX12_alike 106 = .ok (.iadd, 1) := by decide +kernel
theorem dX12_alike_107 : decode cX12_alike 107 = .ok (.iaload, 1) := by decide +kernel
theorem dX12_alike_108 : decode cX12_alike 108 = .ok (.if_icmp .ne 7, 3) := by decide +kernel
theorem dX12_alike_111 : decode cX12_alike 111 = .ok (.iconst 1, 1) := by decide +kernel
theorem dX12_alike_112 : decode cX12_alike 112 = .ok (.goto 4, 3) := by decide +kernel
theorem dX12_alike_115 : decode cX12_alike 115 = .ok (.iconst 0, 1) := by decide +kernel
theorem dX12_alike_116 : decode cX12_alike 116 = .ok (.istore_n 3, 1) := by decide +kernel
theorem dX12_alike_117 : decode cX12_alike 117 = .ok (.iconst 0, 1) := by decide +kernel
theorem dX12_alike_118 : decode cX12_alike 118 = .ok (.istore 4, 2) := by decide +kernel
theorem dX12_alike_120 : decode cX12_alike 120 = .ok (.iload 4, 2) := by decide +kernel
theorem dX12_alike_122 : decode cX12_alike 122 = .ok (.aload_n 0, 1) := by decide +kernel
theorem dX12_alike_123 : decode cX12_alike 123 = .ok (.getfield 67, 3) := by decide +kernel
theorem dX12_alike_126 : decode cX12_alike 126 = .ok (.bipush 24, 2) := by decide +kernel
theorem dX12_alike_128 : decode cX12_alike 128 = .ok (.iload_n 1, 1) := by decide +kernel
theorem dX12_alike_129 : decode cX12_alike 129 = .ok (.iadd, 1) := by decide +kernel
theorem dX12_alike_130 : decode cX12_alike 130 = .ok (.iaload, 1) := by decide +kernel
theorem dX12_alike_131 : decode cX12_alike 131 = .ok (.if_icmp .ge 44, 3) := by decide +kernel
theorem dX12_alike_134 : decode cX12_alike 134 = .ok (.iload_n 3, 1) := by decide +kernel
theorem dX12_alike_135 : decode cX12_alike 135 = .ok (.ifCond .eq 40, 3) := by decide +kernel
theorem dX12_alike_138 : decode cX12_alike 138 = .ok (.aload_n 0, 1) := by decide +kernel
theorem dX12_alike_139 : decode cX12_alike 139 = .ok (.aload_n 0, 1) := by decide +kernel
theorem dX12_alike_140 : decode cX12_alike 140 = .ok (.getfield 67, 3) := by decide +kernel
theorem dX12_alike_143 : decode cX12_alike 143 = .ok (.iload_n 1, 1) := by decide +kernel
theorem dX12_alike_144 : decode cX12_alike 144 = .ok (.iload 4, 2) := by decide +kernel
theorem dX12_alike_146 : decode cX12_alike 146 = .ok (.invokevirtual 310, 3) := by decide +kernel
theorem dX12_alike_149 : decode cX12_alike 149 = .ok (.aload_n 0, 1) := by decide +kernel
theorem dX12_alike_150 : decode cX12_alike 150 = .ok (.aload_n 0, 1) := by decide +kernel
theorem dX12_alike_151 : decode cX12_alike 151 = .ok (.getfield 67, 3) := by decide +kernel
theorem dX12_alike_154 : decode cX12_alike 154 = .ok (.iload_n 2, 1) := by decide +kernel
theorem dX12_alike_155 : decode cX12_alike 155 = .ok (.iload 4, 2) := by decide +kernel
theorem dX12_alike_157 : decode cX12_alike 157 = .ok (.invokevirtual 310, 3) := by decide +kernel
theorem dX12_alike_160 : decode cX12_alike 160 = .ok (.if_icmp .ne 7, 3) := by decide +kernel
theorem dX12_alike_163 : decode cX12_alike 163 = .ok (.iconst 1, 1) := by decide +kernel
theorem dX12_alike_164 : decode cX12_alike 164 = .ok (.goto 4, 3) := by decide +kernel
theorem dX12_alike_167 : decode cX12_alike 167 = .ok (.iconst 0, 1) := by decide +kernel
theorem dX12_alike_168 : decode cX12_alike 168 = .ok (.istore_n 3, 1) := by decide +kernel
theorem dX12_alike_169 : decode cX12_alike 169 = .ok (.iinc 4 1, 3) := by decide +kernel
theorem dX12_alike_172 : decode cX12_alike 172 = .ok (.goto (-52), 3) := by decide +kernel
theorem dX12_alike_175 : decode cX12_alike 175 = .ok (.iload_n 3, 1) := by decide +kernel
theorem dX12_alike_176 : decode cX12_alike 176 = .ok (.ireturn, 1) := by decide +kernel
theorem dX12_chained_0 : decode cX12_chained 0 = .ok (.aload_n 0, 1) := by decide +kernel
theorem dX12_chained_1 : decode cX12_chained 1 = .ok (.iconst 0, 1) := by decide +kernel
theorem dX12_chained_2 : decode cX12_chained 2 = .ok (.putfield 94, 3) := by decide +kernel
theorem dX12_chained_5 : decode cX12_chained 5 = .ok (.aload_n 0, 1) := by decide +kernel
theorem dX12_chained_6 : decode cX12_chained 6 = .ok (.iload_n 1, 1) := by decide +kernel
theorem dX12_chained_7 : decode cX12_chained 7 = .ok (.iconst 0, 1) := by decide +kernel
theorem dX12_chained_8 : decode cX12_chained 8 = .ok (.bipush 7, 2) := by decide +kernel
theorem dX12_chained_10 : decode cX12_chained 10 = .ok (.invokestatic 128, 3) := by decide +kernel
theorem dX12_chained_13 : decode cX12_chained 13 = .ok (.ifCond .ne 7, 3) := by decide +kernel
theorem dX12_chained_16 : decode cX12_chained 16 = .ok (.iconst 1, 1) := by decide +kernel
theorem dX12_chained_17 : decode cX12_chained 17 = .ok (.goto 4, 3) := by decide +kernel
theorem dX12_chained_20 : decode cX12_chained 20 = .ok (.iconst 0, 1) := by decide +kernel
theorem dX12_chained_21 : decode cX12_chained 21 = .ok (.iconst 1, 1) := by decide +kernel
theorem dX12_chained_22 : decode cX12_chained 22 = .ok (.iconst 1, 1) := by decide +kernel
theorem dX12_chained_23 : decode cX12_chained 23 = .ok (.invokevirtual 167, 3) := by decide +kernel
theorem dX12_chained_26 : decode cX12_chained 26 = .ok (.ifCond .eq 5, 3) := by decide +kernel
theorem dX12_chained_29 : decode cX12_chained 29 = .ok (.iconst 0, 1) := by decide +kernel
theorem dX12_chained_30 : decode cX12_chained 30 = .ok (.ireturn, 1) := by decide +kernel
theorem dX12_chained_31 : decode cX12_chained 31 = .ok (.iconst 0, 1) := by decide +kernel
theorem dX12_chained_32 : decode cX12_chained 32 = .ok (.istore_n 2, 1) := by decide +kernel
theorem dX12_chained_33 : decode cX12_chained 33 = .ok (.iconst 0, 1) := by decide +kernel
theorem dX12_chained_34 : decode cX12_chained 34 = .ok (.istore_n 3, 1) := by decide +kernel
theorem dX12_chained_35 : decode cX12_chained 35 = .ok (.iload_n 3, 1) := by decide +kernel
theorem dX12_chained_36 : decode cX12_chained 36 = .ok (.aload_n 0, 1) := by decide +kernel
theorem dX12_chained_37 : decode cX12_chained 37 = .ok (.getfield 190, 3) := by decide +kernel
theorem dX12_chained_40 : decode cX12_chained 40 = .ok (.if_icmp .ge 34, 3) := by decide +kernel
theorem dX12_chained_43 : decode cX12_chained 43 = .ok (.iload_n 2, 1) := by decide +kernel
theorem dX12_chained_44 : decode cX12_chained 44 = .ok (.aload_n 0, 1) := by decide +kernel
theorem dX12_chained_45 : decode cX12_chained 45 = .ok (.getfield 31, 3) := by decide +kernel
theorem dX12_chained_48 : decode cX12_chained 48 = .ok (.aload_n 0, 1) := by decide +kernel
theorem dX12_chained_49 : decode cX12_chained 49 = .ok (.getfield 58, 3) := by decide +kernel
theorem dX12_chained_52 : decode cX12_chained 52 = .ok (.iload_n 3, 1) := by decide +kernel
theorem dX12_chained_53 : decode cX12_chained 53 = .ok (.iaload, 1) := by decide +kernel
theorem dX12_chained_54 : decode cX12_chained 54 = .ok (.aaload, 1) := by decide +kernel
theorem dX12_chained_55 : decode cX12_chained 55 = .ok (.iconst 0, 1) := by decide +kernel
theorem dX12_chained_56 : decode cX12_chained 56 = .ok (.iaload, 1) := by decide +kernel
theorem dX12_chained_57 : decode cX12_chained 57 = .ok (.iload_n 1, 1) := by decide +kernel
theorem dX12_chained_58 : decode cX12_chained 58 = .ok (.if_icmp .ne 7, 3) := by decide +kernel
theorem dX12_chained_61 : decode cX12_chained 61 = .ok (.iconst 1, 1) := by decide +kernel
theorem dX12_chained_62 : decode cX12_chained 62 = .ok (.goto 4, 3) := by decide +kernel
theorem dX12_chained_65 : decode cX12_chained 65 = .ok (.iconst 0, 1) := by decide +kernel
theorem dX12_chained_66 : decode cX12_chained 66 = .ok (.iadd, 1) := by decide +kernel
theorem dX12_chained_67 : decode cX12_chained 67 = .ok (.istore_n 2, 1) := by decide +kernel
theorem dX12_chained_68 : decode cX12_chained 68 = .ok (.iinc 3 1, 3) := by decide +kernel
theorem dX12_chained_71 : decode cX12_chained 71 = .ok (.goto (-36), 3) := by decide +kernel
theorem dX12_chained_74 : decode cX12_chained 74 = .ok (.iload_n 2, 1) := by decide +kernel
theorem dX12_chained_75 : decode cX12_chained 75 = .ok (.ireturn, 1) := by decide +kernel
theorem dX12_liar_0 : decode cX12_liar 0 = .ok (.aload_n 0, 1) := by decide +kernel
theorem dX12_liar_1 : decode cX12_liar 1 = .ok (.iconst 0, 1) := by decide +kernel
theorem dX12_liar_2 : decode cX12_liar 2 = .ok (.putfield 94, 3) := by decide +kernel
theorem dX12_liar_5 : decode cX12_liar 5 = .ok (.aload_n 0, 1) := by decide +kernel
theorem dX12_liar_6 : decode cX12_liar 6 = .ok (.iload_n 2, 1) := by decide +kernel
theorem dX12_liar_7 : decode cX12_liar 7 = .ok (.iconst 0, 1) := by decide +kernel
theorem dX12_liar_8 : decode cX12_liar 8 = .ok (.iconst 1, 1) := by decide +kernel
theorem dX12_liar_9 : decode cX12_liar 9 = .ok (.invokestatic 128, 3) := by decide +kernel
theorem dX12_liar_12 : decode cX12_liar 12 = .ok (.ifCond .ne 7, 3) := by decide +kernel
theorem dX12_liar_15 : decode cX12_liar 15 = .ok (.iconst 1, 1) := by decide +kernel
theorem dX12_liar_16 : decode cX12_liar 16 = .ok (.goto 4, 3) := by decide +kernel
theorem dX12_liar_19 : decode cX12_liar 19 = .ok (.iconst 0, 1) := by decide +kernel
theorem dX12_liar_20 : decode cX12_liar 20 = .ok (.iconst 1, 1) := by decide +kernel
theorem dX12_liar_21 : decode cX12_liar 21 = .ok (.iconst 1, 1) := by decide +kernel
theorem dX12_liar_22 : decode cX12_liar 22 = .ok (.invokevirtual 167, 3) := by decide +kernel
theorem dX12_liar_25 : decode cX12_liar 25 = .ok (.ifCond .eq 5, 3) := by decide +kernel
theorem dX12_liar_28 : decode cX12_liar 28 = .ok (.iconst 0, 1) := by decide +kernel
theorem dX12_liar_29 : decode cX12_liar 29 = .ok (.ireturn, 1) := by decide +kernel
theorem dX12_liar_30 : decode cX12_liar 30 = .ok (.iconst (-1), 1) := by decide +kernel
theorem dX12_liar_31 : decode cX12_liar 31 = .ok (.istore_n 3, 1) := by decide +kernel
theorem dX12_liar_32 : decode cX12_liar 32 = .ok (.iconst (-1), 1) := by decide +kernel
theorem dX12_liar_33 : decode cX12_liar 33 = .ok (.istore 4, 2) := by decide +kernel
theorem dX12_liar_35 : decode cX12_liar 35 = .ok (.iconst 0, 1) := by decide +kernel
theorem dX12_liar_36 : decode cX12_liar 36 = .ok (.istore 5, 2) := by decide +kernel
theorem dX12_liar_38 : decode cX12_liar 38 = .ok (.iload 5, 2) := by decide +kernel
theorem dX12_liar_40 : decode cX12_liar 40 = .ok (.aload_n 0, 1) := by decide +kernel
theorem dX12_liar_41 : decode cX12_liar 41 = .ok (.getfield 23, 3) := by decide +kernel
theorem dX12_liar_44 : decode cX12_liar 44 = .ok (.iconst 0, 1) := by decide +kernel
theorem dX12_liar_45 : decode cX12_liar 45 = .ok (.iaload, 1) := by decide +kernel
theorem dX12_liar_46 : decode cX12_liar 46 = .ok (.if_icmp .ge 65, 3) := by decide +kernel
theorem dX12_liar_49 : decode cX12_liar 49 = .ok (.aload_n 0, 1) := by decide +kernel
theorem dX12_liar_50 : decode cX12_liar 50 = .ok (.aload_n 0, 1) := by decide +kernel
theorem dX12_liar_51 : decode cX12_liar 51 = .ok (.getfield 67, 3) := by decide +kernel
theorem dX12_liar_54 : decode cX12_liar 54 = .ok (.iload 5, 2) := by decide +kernel
theorem dX12_liar_56 : decode cX12_liar 56 = .ok (.invokevirtual 286, 3) := by decide +kernel
theorem dX12_liar_59 : decode cX12_liar 59 = .ok (.ifCond .eq 6, 3) := by decide +kernel
theorem dX12_liar_62 : decode cX12_liar 62 = .ok (.goto 43, 3) := by decide +kernel
theorem dX12_liar_65 : decode cX12_liar 65 = .ok (.iload_n 1, 1) := by decide +kernel
theorem dX12_liar_66 : decode cX12_liar 66 = .ok (.aload_n 0, 1) := by decide +kernel
theorem dX12_liar_67 : decode cX12_liar 67 = .ok (.aload_n 0, 1) := by decide +kernel
theorem dX12_liar_68 : decode cX12_liar 68 = .ok (.getfield 67, 3) := by decide +kernel
theorem dX12_liar_71 : decode cX12_liar 71 = .ok (.iload 5, 2) := by decide +kernel
theorem dX12_liar_73 : decode cX12_liar 73 = .ok (.iload_n 1, 1) := by decide +kernel
theorem dX12_liar_74 : decode cX12_liar 74 = .ok (.invokevirtual 290, 3) := by decide +kernel
theorem dX12_liar_77 : decode cX12_liar 77 = .ok (.invokestatic 294, 3) := by decide +kernel
theorem dX12_liar_80 : decode cX12_liar 80 = .ok (.istore 6, 2) := by decide +kernel
theorem dX12_liar_82 : decode cX12_liar 82 = .ok (.iload 6, 2) := by decide +kernel
theorem dX12_liar_84 : decode cX12_liar 84 = .ok (.iload 4, 2) := by decide +kernel
theorem dX12_liar_86 : decode cX12_liar 86 = .ok (.if_icmp .le 8, 3) := by decide +kernel
theorem dX12_liar_89 : decode cX12_liar 89 = .ok (.iload 5, 2) := by decide +kernel
theorem dX12_liar_91 : decode cX12_liar 91 = .ok (.goto 4, 3) := by decide +kernel
theorem dX12_liar_94 : decode cX12_liar 94 = .ok (.iload_n 3, 1) := by decide +kernel
theorem dX12_liar_95 : decode cX12_liar 95 = .ok (.istore_n 3, 1) := by decide +kernel
theorem dX12_liar_96 : decode cX12_liar 96 = .ok (.iload 4, 2) := by decide +kernel
theorem dX12_liar_98 : decode cX12_liar 98 = .ok (.iload 6, 2) := by decide +kernel
theorem dX12_liar_100 : decode cX12_liar 100 = .ok (.invokestatic 237, 3) := by decide +kernel
theorem dX12_liar_103 : decode cX12_liar 103 = .ok (.istore 4, 2) := by decide +kernel
theorem dX12_liar_105 : decode cX12_liar 105 = .ok (.iinc 5 1, 3) := by decide +kernel
theorem dX12_liar_108 : decode cX12_liar 108 = .ok (.goto (-70), 3) := by decide +kernel
theorem dX12_liar_111 : decode cX12_liar 111 = .ok (.iload_n 2, 1) := by decide +kernel
theorem dX12_liar_112 : decode cX12_liar 112 = .ok (.ifCond .ne 7, 3) := by decide +kernel
theorem dX12_liar_115 : decode cX12_liar 115 = .ok (.iload_n 3, 1) := by decide +kernel
theorem dX12_liar_116 : decode cX12_liar 116 = .ok (.goto 5, 3) := by decide +kernel
theorem dX12_liar_119 : decode cX12_liar 119 = .ok (.iload 4, 2) := by decide +kernel
theorem dX12_liar_121 : decode cX12_liar 121 = .ok (.ireturn, 1) := by decide +kernel
theorem dX12_reach_0 : decode cX12_reach 0 = .ok (.aload_n 0, 1) := by decide +kernel
theorem dX12_reach_1 : decode cX12_reach 1 = .ok (.iconst 0, 1) := by decide +kernel
theorem dX12_reach_2 : decode cX12_reach 2 = .ok (.putfield 94, 3) := by decide +kernel
theorem dX12_reach_5 : decode cX12_reach 5 = .ok (.aload_n 0, 1) := by decide +kernel
theorem dX12_reach_6 : decode cX12_reach 6 = .ok (.aload_n 0, 1) := by decide +kernel
theorem dX12_reach_7 : decode cX12_reach 7 = .ok (.iload_n 1, 1) := by decide +kernel
theorem dX12_reach_8 : decode cX12_reach 8 = .ok (.invokevirtual 355, 3) := by decide +kernel
theorem dX12_reach_11 : decode cX12_reach 11 = .ok (.ifCond .ne 7, 3) := by decide +kernel
theorem dX12_reach_14 : decode cX12_reach 14 = .ok (.iconst 1, 1) := by decide +kernel
theorem dX12_reach_15 : decode cX12_reach 15 = .ok (.goto 4, 3) := by decide +kernel
theorem dX12_reach_18 : decode cX12_reach 18 = .ok (.iconst 0, 1) := by decide +kernel
theorem dX12_reach_19 : decode cX12_reach 19 = .ok (.iconst 1, 1) := by decide +kernel
theorem dX12_reach_20 : decode cX12_reach 20 = .ok (.iconst 0, 1) := by decide +kernel
theorem dX12_reach_21 : decode cX12_reach 21 = .ok (.invokevirtual 167, 3) := by decide +kernel
theorem dX12_reach_24 : decode cX12_reach 24 = .ok (.ifCond .eq 5, 3) := by decide +kernel
theorem dX12_reach_27 : decode cX12_reach 27 = .ok (.iconst 0, 1) := by decide +kernel
theorem dX12_reach_28 : decode cX12_reach 28 = .ok (.ireturn, 1) := by decide +kernel
theorem dX12_reach_29 : decode cX12_reach 29 = .ok (.iconst 1, 1) := by decide +kernel
theorem dX12_reach_30 : decode cX12_reach 30 = .ok (.iload_n 1, 1) := by decide +kernel
theorem dX12_reach_31 : decode cX12_reach 31 = .ok (.ishl, 1) := by decide +kernel
theorem dX12_reach_32 : decode cX12_reach 32 = .ok (.istore_n 2, 1) := by decide +kernel
theorem dX12_reach_33 : decode cX12_reach 33 = .ok (.iconst 0, 1) := by decide +kernel
theorem dX12_reach_34 : decode cX12_reach 34 = .ok (.istore_n 3, 1) := by decide +kernel
theorem dX12_reach_35 : decode cX12_reach 35 = .ok (.iload_n 2, 1) := by decide +kernel
theorem dX12_reach_36 : decode cX12_reach 36 = .ok (.iload_n 3, 1) := by decide +kernel
theorem dX12_reach_37 : decode cX12_reach 37 = .ok (.if_icmp .eq 51, 3) := by decide +kernel
theorem dX12_reach_40 : decode cX12_reach 40 = .ok (.iload_n 2, 1) := by decide +kernel
theorem dX12_reach_41 : decode cX12_reach 41 = .ok (.istore_n 3, 1) := by decide +kernel
theorem dX12_reach_42 : decode cX12_reach 42 = .ok (.iconst 0, 1) := by decide +kernel
theorem dX12_reach_43 : decode cX12_reach 43 = .ok (.istore 4, 2) := by decide +kernel
theorem dX12_reach_45 : decode cX12_reach 45 = .ok (.iload 4, 2) := by decide +kernel
theorem dX12_reach_47 : decode cX12_reach 47 = .ok (.aload_n 0, 1) := by decide +kernel
theorem dX12_reach_48 : decode cX12_reach 48 = .ok (.getfield 23, 3) := by decide +kernel
theorem dX12_reach_51 : decode cX12_reach 51 = .ok (.iconst 0, 1) := by decide +kernel
theorem dX12_reach_52 : decode cX12_reach 52 = .ok (.iaload, 1) := by decide +kernel
theorem dX12_reach_53 : decode cX12_reach 53 = .ok (.if_icmp .ge 32, 3) := by decide +kernel
theorem dX12_reach_56 : decode cX12_reach 56 = .ok (.iload_n 2, 1) := by decide +kernel
theorem dX12_reach_57 : decode cX12_reach 57 = .ok (.iload_n 3, 1) := by decide +kernel
theorem dX12_reach_58 : decode cX12_reach 58 = .ok (.iload 4, 2) := by decide +kernel
theorem dX12_reach_60 : decode cX12_reach 60 = .ok (.invokestatic 393, 3) := by decide +kernel
theorem dX12_reach_63 : decode cX12_reach 63 = .ok (.ifCond .eq 13, 3) := by decide +kernel
theorem dX12_reach_66 : decode cX12_reach 66 = .ok (.aload_n 0, 1) := by decide +kernel
theorem dX12_reach_67 : decode cX12_reach 67 = .ok (.iload 4, 2) := by decide +kernel
theorem dX12_reach_69 : decode cX12_reach 69 = .ok (.iconst 0, 1) := by decide +kernel
theorem dX12_reach_70 : decode cX12_reach 70 = .ok (.invokevirtual 358, 3) := by decide +kernel
theorem dX12_reach_73 : decode cX12_reach 73 = .ok (.goto 4, 3) := by decide +kernel
theorem dX12_reach_76 : decode cX12_reach 76 = .ok (.iconst 0, 1) := by decide +kernel
theorem dX12_reach_77 : decode cX12_reach 77 = .ok (.ior, 1) := by decide +kernel
theorem dX12_reach_78 : decode cX12_reach 78 = .ok (.istore_n 2, 1) := by decide +kernel
theorem dX12_reach_79 : decode cX12_reach 79 = .ok (.iinc 4 1, 3) := by decide +kernel
theorem dX12_reach_82 : decode cX12_reach 82 = .ok (.goto (-37), 3) := by decide +kernel
theorem dX12_reach_85 : decode cX12_reach 85 = .ok (.goto (-50), 3) := by decide +kernel
theorem dX12_reach_88 : decode cX12_reach 88 = .ok (.iload_n 2, 1) := by decide +kernel
theorem dX12_reach_89 : decode cX12_reach 89 = .ok (.ireturn, 1) := by decide +kernel
theorem dX12_room_0 : decode cX12_room 0 = .ok (.aload_n 0, 1) := by decide +kernel
theorem dX12_room_1 : decode cX12_room 1 = .ok (.iconst 0, 1) := by decide +kernel
theorem dX12_room_2 : decode cX12_room 2 = .ok (.putfield 94, 3) := by decide +kernel
theorem dX12_room_5 : decode cX12_room 5 = .ok (.iconst 0, 1) := by decide +kernel
theorem dX12_room_6 : decode cX12_room 6 = .ok (.istore_n 1, 1) := by decide +kernel
theorem dX12_room_7 : decode cX12_room 7 = .ok (.iconst 0, 1) := by decide +kernel
theorem dX12_room_8 : decode cX12_room 8 = .ok (.istore_n 2, 1) := by decide +kernel
theorem dX12_room_9 : decode cX12_room 9 = .ok (.iload_n 2, 1) := by decide +kernel
theorem dX12_room_10 : decode cX12_room 10 = .ok (.aload_n 0, 1) := by decide +kernel
theorem dX12_room_11 : decode cX12_room 11 = .ok (.getfield 23, 3) := by decide +kernel
theorem dX12_room_14 : decode cX12_room 14 = .ok (.iconst 0, 1) := by decide +kernel
theorem dX12_room_15 : decode cX12_room 15 = .ok (.iaload, 1) := by decide +kernel
theorem dX12_room_16 : decode cX12_room 16 = .ok (.if_icmp .ge 48, 3) := by decide +kernel
theorem dX12_room_19 : decode cX12_room 19 = .ok (.iload_n 1, 1) := by decide +kernel
theorem dX12_room_20 : decode cX12_room 20 = .ok (.aload_n 0, 1) := by decide +kernel
theorem dX12_room_21 : decode cX12_room 21 = .ok (.getfield 67, 3) := by decide +kernel
theorem dX12_room_24 : decode cX12_room 24 = .ok (.bipush 16, 2) := by decide +kernel
theorem dX12_room_26 : decode cX12_room 26 = .ok (.iload_n 2, 1) := by decide +kernel
theorem dX12_room_27 : decode cX12_room 27 = .ok (.iadd, 1) := by decide +kernel
theorem dX12_room_28 : decode cX12_room 28 = .ok (.iaload, 1) := by decide +kernel
theorem dX12_room_29 : decode cX12_room 29 = .ok (.iconst (-1), 1) := by decide +kernel
theorem dX12_room_30 : decode cX12_room 30 = .ok (.if_icmp .ne 7, 3) := by decide +kernel
theorem dX12_room_33 : decode cX12_room 33 = .ok (.iconst 0, 1) := by decide +kernel
theorem dX12_room_34 : decode cX12_room 34 = .ok (.goto 22, 3) := by decide +kernel
theorem dX12_room_37 : decode cX12_room 37 = .ok (.aload_n 0, 1) := by decide +kernel
theorem dX12_room_38 : decode cX12_room 38 = .ok (.getfield 67, 3) := by decide +kernel
theorem dX12_room_41 : decode cX12_room 41 = .ok (.bipush 16, 2) := by decide +kernel
theorem dX12_room_43 : decode cX12_room 43 = .ok (.iload_n 2, 1) := by decide +kernel
theorem dX12_room_44 : decode cX12_room 44 = .ok (.iadd, 1) := by decide +kernel
theorem dX12_room_45 : decode cX12_room 45 = .ok (.iaload, 1) := by decide +kernel
theorem dX12_room_46 : decode cX12_room 46 = .ok (.aload_n 0, 1) := by decide +kernel
theorem dX12_room_47 : decode cX12_room 47 = .ok (.getfield 67, 3) := by decide +kernel
theorem dX12_room_50 : decode cX12_room 50 = .ok (.bipush 24, 2) := by decide +kernel
theorem dX12_room_52 : decode cX12_room 52 = .ok (.iload_n 2, 1) := by decide +kernel
theorem dX12_room_53 : decode cX12_room 53 = .ok (.iadd, 1) := by decide +kernel
theorem dX12_room_54 : decode cX12_room 54 = .ok (.iaload, 1) := by decide +kernel
theorem dX12_room_55 : decode cX12_room 55 = .ok (.isub, 1) := by decide +kernel
theorem dX12_room_56 : decode cX12_room 56 = .ok (.iadd, 1) := by decide +kernel
theorem dX12_room_57 : decode cX12_room 57 = .ok (.istore_n 1, 1) := by decide +kernel
theorem dX12_room_58 : decode cX12_room 58 = .ok (.iinc 2 1, 3) := by decide +kernel
theorem dX12_room_61 : decode cX12_room 61 = .ok (.goto (-52), 3) := by decide +kernel
theorem dX12_room_64 : decode cX12_room 64 = .ok (.iload_n 1, 1) := by decide +kernel
theorem dX12_room_65 : decode cX12_room 65 = .ok (.ireturn, 1) := by decide +kernel
theorem dX12_draw_0 : decode cX12_draw 0 = .ok (.aload_n 0, 1) := by decide +kernel
theorem dX12_draw_1 : decode cX12_draw 1 = .ok (.aload_n 0, 1) := by decide +kernel
theorem dX12_draw_2 : decode cX12_draw 2 = .ok (.getfield 413, 3) := by decide +kernel
theorem dX12_draw_5 : decode cX12_draw 5 = .ok (.ldc_w 416, 3) := by decide +kernel
theorem dX12_draw_8 : decode cX12_draw 8 = .ok (.imul, 1) := by decide +kernel
theorem dX12_draw_9 : decode cX12_draw 9 = .ok (.sipush 12345, 3) := by decide +kernel
theorem dX12_draw_12 : decode cX12_draw 12 = .ok (.iadd, 1) := by decide +kernel
theorem dX12_draw_13 : decode cX12_draw 13 = .ok (.putfield 413, 3) := by decide +kernel
theorem dX12_draw_16 : decode cX12_draw 16 = .ok (.aload_n 0, 1) := by decide +kernel
theorem dX12_draw_17 : decode cX12_draw 17 = .ok (.getfield 413, 3) := by decide +kernel
theorem dX12_draw_20 : decode cX12_draw 20 = .ok (.bipush 16, 2) := by decide +kernel
theorem dX12_draw_22 : decode cX12_draw 22 = .ok (.ishr, 1) := by decide +kernel
theorem dX12_draw_23 : decode cX12_draw 23 = .ok (.sipush 32767, 3) := by decide +kernel
theorem dX12_draw_26 : decode cX12_draw 26 = .ok (.iand, 1) := by decide +kernel
theorem dX12_draw_27 : decode cX12_draw 27 = .ok (.iload_n 1, 1) := by decide +kernel
theorem dX12_draw_28 : decode cX12_draw 28 = .ok (.irem, 1) := by decide +kernel
theorem dX12_draw_29 : decode cX12_draw 29 = .ok (.ireturn, 1) := by decide +kernel
theorem dX12_seasonBy_0 : decode cX12_seasonBy 0 = .ok (.aload_n 0, 1) := by decide +kernel
theorem dX12_seasonBy_1 : decode cX12_seasonBy 1 = .ok (.getfield 67, 3) := by decide +kernel
theorem dX12_seasonBy_4 : decode cX12_seasonBy 4 = .ok (.aload_n 0, 1) := by decide +kernel
theorem dX12_seasonBy_5 : decode cX12_seasonBy 5 = .ok (.getfield 70, 3) := by decide +kernel
theorem dX12_seasonBy_8 : decode cX12_seasonBy 8 = .ok (.invokestatic 347, 3) := by decide +kernel
theorem dX12_seasonBy_11 : decode cX12_seasonBy 11 = .ok (.aload_n 0, 1) := by decide +kernel
theorem dX12_seasonBy_12 : decode cX12_seasonBy 12 = .ok (.iload_n 1, 1) := by decide +kernel
theorem dX12_seasonBy_13 : decode cX12_seasonBy 13 = .ok (.putfield 413, 3) := by decide +kernel
theorem dX12_seasonBy_16 : decode cX12_seasonBy 16 = .ok (.iconst 0, 1) := by decide +kernel
theorem dX12_seasonBy_17 : decode cX12_seasonBy 17 = .ok (.istore 4, 2) := by decide +kernel
theorem dX12_seasonBy_19 : decode cX12_seasonBy 19 = .ok (.iload 4, 2) := by decide +kernel
theorem dX12_seasonBy_21 : decode cX12_seasonBy 21 = .ok (.iload_n 2, 1) := by decide +kernel
theorem dX12_seasonBy_22 : decode cX12_seasonBy 22 = .ok (.if_icmp .ge 94, 3) := by decide +kernel
theorem dX12_seasonBy_25 : decode cX12_seasonBy 25 = .ok (.aload_n 0, 1) := by decide +kernel
theorem dX12_seasonBy_26 : decode cX12_seasonBy 26 = .ok (.getfield 23, 3) := by decide +kernel
theorem dX12_seasonBy_29 : decode cX12_seasonBy 29 = .ok (.iconst 0, 1) := by decide +kernel
theorem dX12_seasonBy_30 : decode cX12_seasonBy 30 = .ok (.iaload, 1) := by decide +kernel
theorem dX12_seasonBy_31 : decode cX12_seasonBy 31 = .ok (.ifCond .le 33, 3) := by decide +kernel
theorem dX12_seasonBy_34 : decode cX12_seasonBy 34 = .ok (.aload_n 0, 1) := by decide +kernel
theorem dX12_seasonBy_35 : decode cX12_seasonBy 35 = .ok (.aload_n 0, 1) := by decide +kernel
theorem dX12_seasonBy_36 : decode cX12_seasonBy 36 = .ok (.getfield 23, 3) := by decide +kernel
theorem dX12_seasonBy_39 : decode cX12_seasonBy 39 = .ok (.iconst 0, 1) := by decide +kernel
theorem dX12_seasonBy_40 : decode cX12_seasonBy 40 = .ok (.iaload, 1) := by decide +kernel
theorem dX12_seasonBy_41 : decode cX12_seasonBy 41 = .ok (.invokevirtual 417, 3) := by decide +kernel
theorem dX12_seasonBy_44 : decode cX12_seasonBy 44 = .ok (.istore 5, 2) := by decide +kernel
theorem dX12_seasonBy_46 : decode cX12_seasonBy 46 = .ok (.aload_n 0, 1) := by decide +kernel
theorem dX12_seasonBy_47 : decode cX12_seasonBy 47 = .ok (.aload_n 0, 1) := by decide +kernel
theorem dX12_seasonBy_48 : decode cX12_seasonBy 48 = .ok (.getfield 70, 3) := by decide +kernel
theorem dX12_seasonBy_51 : decode cX12_seasonBy 51 = .ok (.iload 5, 2) := by decide +kernel
theorem dX12_seasonBy_53 : decode cX12_seasonBy 53 = .ok (.aload_n 0, 1) := by decide +kernel
theorem dX12_seasonBy_54 : decode cX12_seasonBy 54 = .ok (.sipush 10000, 3) := by decide +kernel
theorem dX12_seasonBy_57 : decode cX12_seasonBy 57 = .ok (.invokevirtual 417, 3) := by decide +kernel
theorem dX12_seasonBy_60 : decode cX12_seasonBy 60 = .ok (.invokevirtual 313, 3) := by decide +kernel
theorem dX12_seasonBy_63 : decode cX12_seasonBy 63 = .ok (.pop, 1) := by decide +kernel
theorem dX12_seasonBy_64 : decode cX12_seasonBy 64 = .ok (.aload_n 0, 1) := by decide +kernel
theorem dX12_seasonBy_65 : decode cX12_seasonBy 65 = .ok (.getfield 23, 3) := by decide +kernel
theorem dX12_seasonBy_68 : decode cX12_seasonBy 68 = .ok (.iconst 1, 1) := by decide +kernel
theorem dX12_seasonBy_69 : decode cX12_seasonBy 69 = .ok (.iaload, 1) := by decide +kernel
theorem dX12_seasonBy_70 : decode cX12_seasonBy 70 = .ok (.ifCond .le 32, 3) := by decide +kernel
theorem dX12_seasonBy_73 : decode cX12_seasonBy 73 = .ok (.aload_n 0, 1) := by decide +kernel
theorem dX12_seasonBy_74 : decode cX12_seasonBy 74 = .ok (.bipush 16, 2) := by decide +kernel
theorem dX12_seasonBy_76 : decode cX12_seasonBy 76 = .ok (.invokevirtual 417, 3) := by decide +kernel
theorem dX12_seasonBy_79 : decode cX12_seasonBy 79 = .ok (.iload_n 3, 1) := by decide +kernel
theorem dX12_seasonBy_80 : decode cX12_seasonBy 80 = .ok (.if_icmp .ge 22, 3) := by decide +kernel
theorem dX12_seasonBy_83 : decode cX12_seasonBy 83 = .ok (.aload_n 0, 1) := by decide +kernel
theorem dX12_seasonBy_84 : decode cX12_seasonBy 84 = .ok (.aload_n 0, 1) := by decide +kernel
theorem dX12_seasonBy_85 : decode cX12_seasonBy 85 = .ok (.getfield 70, 3) := by decide +kernel
theorem dX12_seasonBy_88 : decode cX12_seasonBy 88 = .ok (.aload_n 0, 1) := by decide +kernel
theorem dX12_seasonBy_89 : decode cX12_seasonBy 89 = .ok (.aload_n 0, 1) := by decide +kernel
theorem dX12_seasonBy_90 : decode cX12_seasonBy 90 = .ok (.getfield 23, 3) := by decide +kernel
theorem dX12_seasonBy_93 : decode cX12_seasonBy 93 = .ok (.iconst 1, 1) := by decide +kernel
theorem dX12_seasonBy_94 : decode cX12_seasonBy 94 = .ok (.iaload, 1) := by decide +kernel
theorem dX12_seasonBy_95 : decode cX12_seasonBy 95 = .ok (.invokevirtual 417, 3) := by decide +kernel
theorem dX12_seasonBy_98 : decode cX12_seasonBy 98 = .ok (.invokevirtual 321, 3) := by decide +kernel
theorem dX12_seasonBy_101 : decode cX12_seasonBy 101 = .ok (.pop, 1) := by decide +kernel
theorem dX12_seasonBy_102 : decode cX12_seasonBy 102 = .ok (.aload_n 0, 1) := by decide +kernel
theorem dX12_seasonBy_103 : decode cX12_seasonBy 103 = .ok (.aload_n 0, 1) := by decide +kernel
theorem dX12_seasonBy_104 : decode cX12_seasonBy 104 = .ok (.getfield 70, 3) := by decide +kernel
theorem dX12_seasonBy_107 : decode cX12_seasonBy 107 = .ok (.invokevirtual 331, 3) := by decide +kernel
theorem dX12_seasonBy_110 : decode cX12_seasonBy 110 = .ok (.iinc 4 1, 3) := by decide +kernel
theorem dX12_seasonBy_113 : decode cX12_seasonBy 113 = .ok (.goto (-94), 3) := by decide +kernel
theorem dX12_seasonBy_116 : decode cX12_seasonBy 116 = .ok (.return_, 1) := by decide +kernel
theorem dX12_isSeason_0 : decode cX12_isSeason 0 = .ok (.iload_n 0, 1) := by decide +kernel
theorem dX12_isSeason_1 : decode cX12_isSeason 1 = .ok (.iconst 1, 1) := by decide +kernel
theorem dX12_isSeason_2 : decode cX12_isSeason 2 = .ok (.bipush 96, 2) := by decide +kernel
theorem dX12_isSeason_4 : decode cX12_isSeason 4 = .ok (.invokestatic 128, 3) := by decide +kernel
theorem dX12_isSeason_7 : decode cX12_isSeason 7 = .ok (.ifCond .eq 17, 3) := by decide +kernel
theorem dX12_isSeason_10 : decode cX12_isSeason 10 = .ok (.iload_n 1, 1) := by decide +kernel
theorem dX12_isSeason_11 : decode cX12_isSeason 11 = .ok (.iconst 0, 1) := by decide +kernel
theorem dX12_isSeason_12 : decode cX12_isSeason 12 = .ok (.bipush 16, 2) := by decide +kernel
theorem dX12_isSeason_14 : decode cX12_isSeason 14 = .ok (.invokestatic 128, 3) := by decide +kernel
theorem dX12_isSeason_17 : decode cX12_isSeason 17 = .ok (.ifCond .eq 7, 3) := by decide +kernel
theorem dX12_isSeason_20 : decode cX12_isSeason 20 = .ok (.iconst 1, 1) := by decide +kernel
theorem dX12_isSeason_21 : decode cX12_isSeason 21 = .ok (.goto 4, 3) := by decide +kernel
theorem dX12_isSeason_24 : decode cX12_isSeason 24 = .ok (.iconst 0, 1) := by decide +kernel
theorem dX12_isSeason_25 : decode cX12_isSeason 25 = .ok (.ireturn, 1) := by decide +kernel
theorem dX12_season_0 : decode cX12_season 0 = .ok (.aload_n 0, 1) := by decide +kernel
theorem dX12_season_1 : decode cX12_season 1 = .ok (.iconst 0, 1) := by decide +kernel
theorem dX12_season_2 : decode cX12_season 2 = .ok (.putfield 94, 3) := by decide +kernel
theorem dX12_season_5 : decode cX12_season 5 = .ok (.aload_n 0, 1) := by decide +kernel
theorem dX12_season_6 : decode cX12_season 6 = .ok (.iload_n 2, 1) := by decide +kernel
theorem dX12_season_7 : decode cX12_season 7 = .ok (.iload_n 3, 1) := by decide +kernel
theorem dX12_season_8 : decode cX12_season 8 = .ok (.invokestatic 420, 3) := by decide +kernel
theorem dX12_season_11 : decode cX12_season 11 = .ok (.ifCond .eq 13, 3) := by decide +kernel
theorem dX12_season_14 : decode cX12_season 14 = .ok (.iload 4, 2) := by decide +kernel
theorem dX12_season_16 : decode cX12_season 16 = .ok (.iconst 0, 1) := by decide +kernel
theorem dX12_season_17 : decode cX12_season 17 = .ok (.iconst 2, 1) := by decide +kernel
theorem dX12_season_18 : decode cX12_season 18 = .ok (.invokestatic 128, 3) := by decide +kernel
theorem dX12_season_21 : decode cX12_season 21 = .ok (.ifCond .ne 7, 3) := by decide +kernel
theorem dX12_season_24 : decode cX12_season 24 = .ok (.iconst 1, 1) := by decide +kernel
theorem dX12_season_25 : decode cX12_season 25 = .ok (.goto 4, 3) := by decide +kernel
theorem dX12_season_28 : decode cX12_season 28 = .ok (.iconst 0, 1) := by decide +kernel
theorem dX12_season_29 : decode cX12_season 29 = .ok (.iconst 1, 1) := by decide +kernel
theorem dX12_season_30 : decode cX12_season 30 = .ok (.iconst 1, 1) := by decide +kernel
theorem dX12_season_31 : decode cX12_season 31 = .ok (.invokevirtual 167, 3) := by decide +kernel
theorem dX12_season_34 : decode cX12_season 34 = .ok (.ifCond .eq 5, 3) := by decide +kernel
theorem dX12_season_37 : decode cX12_season 37 = .ok (.iconst 0, 1) := by decide +kernel
theorem dX12_season_38 : decode cX12_season 38 = .ok (.ireturn, 1) := by decide +kernel
theorem dX12_season_39 : decode cX12_season 39 = .ok (.aload_n 0, 1) := by decide +kernel
theorem dX12_season_40 : decode cX12_season 40 = .ok (.iload_n 1, 1) := by decide +kernel
theorem dX12_season_41 : decode cX12_season 41 = .ok (.iload_n 2, 1) := by decide +kernel
theorem dX12_season_42 : decode cX12_season 42 = .ok (.iload_n 3, 1) := by decide +kernel
theorem dX12_season_43 : decode cX12_season 43 = .ok (.invokevirtual 423, 3) := by decide +kernel
theorem dX12_season_46 : decode cX12_season 46 = .ok (.iload 4, 2) := by decide +kernel
theorem dX12_season_48 : decode cX12_season 48 = .ok (.ifCond .ne 21, 3) := by decide +kernel
theorem dX12_season_51 : decode cX12_season 51 = .ok (.aload_n 0, 1) := by decide +kernel
theorem dX12_season_52 : decode cX12_season 52 = .ok (.getfield 70, 3) := by decide +kernel
theorem dX12_season_55 : decode cX12_season 55 = .ok (.bipush 34, 2) := by decide +kernel
theorem dX12_season_57 : decode cX12_season 57 = .ok (.iaload, 1) := by decide +kernel
theorem dX12_season_58 : decode cX12_season 58 = .ok (.aload_n 0, 1) := by decide +kernel
theorem dX12_season_59 : decode cX12_season 59 = .ok (.getfield 67, 3) := by decide +kernel
theorem dX12_season_62 : decode cX12_season 62 = .ok (.bipush 34, 2) := by decide +kernel
theorem dX12_season_64 : decode cX12_season 64 = .ok (.iaload, 1) := by decide +kernel
theorem dX12_season_65 : decode cX12_season 65 = .ok (.isub, 1) := by decide +kernel
theorem dX12_season_66 : decode cX12_season 66 = .ok (.goto 35, 3) := by decide +kernel
theorem dX12_season_69 : decode cX12_season 69 = .ok (.iload 4, 2) := by decide +kernel
theorem dX12_season_71 : decode cX12_season 71 = .ok (.iconst 1, 1) := by decide +kernel
theorem dX12_season_72 : decode cX12_season 72 = .ok (.if_icmp .ne 21, 3) := by decide +kernel
theorem dX12_season_75 : decode cX12_season 75 = .ok (.aload_n 0, 1) := by decide +kernel
theorem dX12_season_76 : decode cX12_season 76 = .ok (.getfield 70, 3) := by decide +kernel
theorem dX12_season_79 : decode cX12_season 79 = .ok (.bipush 33, 2) := by decide +kernel
theorem dX12_season_81 : decode cX12_season 81 = .ok (.iaload, 1) := by decide +kernel
theorem dX12_season_82 : decode cX12_season 82 = .ok (.aload_n 0, 1) := by decide +kernel
theorem dX12_season_83 : decode cX12_season 83 = .ok (.getfield 67, 3) := by decide +kernel
theorem dX12_season_86 : decode cX12_season 86 = .ok (.bipush 33, 2) := by decide +kernel
theorem dX12_season_88 : decode cX12_season 88 = .ok (.iaload, 1) := by decide +kernel
theorem dX12_season_89 : decode cX12_season 89 = .ok (.isub, 1) := by decide +kernel
theorem dX12_season_90 : decode cX12_season 90 = .ok (.goto 11, 3) := by decide +kernel
theorem dX12_season_93 : decode cX12_season 93 = .ok (.aload_n 0, 1) := by decide +kernel
theorem dX12_season_94 : decode cX12_season 94 = .ok (.aload_n 0, 1) := by decide +kernel
theorem dX12_season_95 : decode cX12_season 95 = .ok (.getfield 70, 3) := by decide +kernel
theorem dX12_season_98 : decode cX12_season 98 = .ok (.invokevirtual 351, 3) := by decide +kernel
theorem dX12_season_101 : decode cX12_season 101 = .ok (.ireturn, 1) := by decide +kernel
theorem dX12_span_0 : decode cX12_span 0 = .ok (.aload_n 0, 1) := by decide +kernel
theorem dX12_span_1 : decode cX12_span 1 = .ok (.iconst 0, 1) := by decide +kernel
theorem dX12_span_2 : decode cX12_span 2 = .ok (.putfield 94, 3) := by decide +kernel
theorem dX12_span_5 : decode cX12_span 5 = .ok (.aload_n 0, 1) := by decide +kernel
theorem dX12_span_6 : decode cX12_span 6 = .ok (.iload_n 2, 1) := by decide +kernel
theorem dX12_span_7 : decode cX12_span 7 = .ok (.iconst 1, 1) := by decide +kernel
theorem dX12_span_8 : decode cX12_span 8 = .ok (.bipush 20, 2) := by decide +kernel
theorem dX12_span_10 : decode cX12_span 10 = .ok (.invokestatic 128, 3) := by decide +kernel
theorem dX12_span_13 : decode cX12_span 13 = .ok (.ifCond .eq 31, 3) := by decide +kernel
theorem dX12_span_16 : decode cX12_span 16 = .ok (.iload_n 3, 1) := by decide +kernel
theorem dX12_span_17 : decode cX12_span 17 = .ok (.iload 4, 2) := by decide +kernel
theorem dX12_span_19 : decode cX12_span 19 = .ok (.invokestatic 420, 3) := by decide +kernel
theorem dX12_span_22 : decode cX12_span 22 = .ok (.ifCond .eq 22, 3) := by decide +kernel
theorem dX12_span_25 : decode cX12_span 25 = .ok (.iload 5, 2) := by decide +kernel
theorem dX12_span_27 : decode cX12_span 27 = .ok (.iconst 0, 1) := by decide +kernel
theorem dX12_span_28 : decode cX12_span 28 = .ok (.iconst 2, 1) := by decide +kernel
theorem dX12_span_29 : decode cX12_span 29 = .ok (.invokestatic 128, 3) := by decide +kernel
theorem dX12_span_32 : decode cX12_span 32 = .ok (.ifCond .eq 12, 3) := by decide +kernel
theorem dX12_span_35 : decode cX12_span 35 = .ok (.aload_n 0, 1) := by decide +kernel
theorem dX12_span_36 : decode cX12_span 36 = .ok (.iload 6, 2) := by decide +kernel
theorem dX12_span_38 : decode cX12_span 38 = .ok (.invokevirtual 355, 3) := by decide +kernel
theorem dX12_span_41 : decode cX12_span 41 = .ok (.ifCond .ne 7, 3) := by decide +kernel
theorem dX12_span_44 : decode cX12_span 44 = .ok (.iconst 1, 1) := by decide +kernel
theorem dX12_span_45 : decode cX12_span 45 = .ok (.goto 4, 3) := by decide +kernel
theorem dX12_span_48 : decode cX12_span 48 = .ok (.iconst 0, 1) := by decide +kernel
theorem dX12_span_49 : decode cX12_span 49 = .ok (.iconst 1, 1) := by decide +kernel
theorem dX12_span_50 : decode cX12_span 50 = .ok (.iconst 1, 1) := by decide +kernel
theorem dX12_span_51 : decode cX12_span 51 = .ok (.invokevirtual 167, 3) := by decide +kernel
theorem dX12_span_54 : decode cX12_span 54 = .ok (.ifCond .eq 5, 3) := by decide +kernel
theorem dX12_span_57 : decode cX12_span 57 = .ok (.iconst 0, 1) := by decide +kernel
theorem dX12_span_58 : decode cX12_span 58 = .ok (.ireturn, 1) := by decide +kernel
theorem dX12_span_59 : decode cX12_span 59 = .ok (.iconst (-1), 1) := by decide +kernel
theorem dX12_span_60 : decode cX12_span 60 = .ok (.istore 7, 2) := by decide +kernel
theorem dX12_span_62 : decode cX12_span 62 = .ok (.iconst 0, 1) := by decide +kernel
theorem dX12_span_63 : decode cX12_span 63 = .ok (.istore 8, 2) := by decide +kernel
theorem dX12_span_65 : decode cX12_span 65 = .ok (.iconst 0, 1) := by decide +kernel
theorem dX12_span_66 : decode cX12_span 66 = .ok (.istore 9, 2) := by decide +kernel
theorem dX12_span_68 : decode cX12_span 68 = .ok (.iconst 0, 1) := by decide +kernel
theorem dX12_span_69 : decode cX12_span 69 = .ok (.istore 10, 2) := by decide +kernel
theorem dX12_span_71 : decode cX12_span 71 = .ok (.iload 10, 2) := by decide +kernel
theorem dX12_span_73 : decode cX12_span 73 = .ok (.iload_n 2, 1) := by decide +kernel
theorem dX12_span_74 : decode cX12_span 74 = .ok (.if_icmp .ge 89, 3) := by decide +kernel
theorem dX12_span_77 : decode cX12_span 77 = .ok (.aload_n 0, 1) := by decide +kernel
theorem dX12_span_78 : decode cX12_span 78 = .ok (.iload_n 1, 1) := by decide +kernel
theorem dX12_span_79 : decode cX12_span 79 = .ok (.iload 10, 2) := by decide +kernel
theorem dX12_span_81 : decode cX12_span 81 = .ok (.iadd, 1) := by decide +kernel
theorem dX12_span_82 : decode cX12_span 82 = .ok (.iload_n 3, 1) := by decide +kernel
theorem dX12_span_83 : decode cX12_span 83 = .ok (.iload 4, 2) := by decide +kernel
theorem dX12_span_85 : decode cX12_span 85 = .ok (.invokevirtual 423, 3) := by decide +kernel
theorem dX12_span_88 : decode cX12_span 88 = .ok (.aload_n 0, 1) := by decide +kernel
theorem dX12_span_89 : decode cX12_span 89 = .ok (.getfield 70, 3) := by decide +kernel
theorem dX12_span_92 : decode cX12_span 92 = .ok (.bipush 33, 2) := by decide +kernel
theorem dX12_span_94 : decode cX12_span 94 = .ok (.iaload, 1) := by decide +kernel
theorem dX12_span_95 : decode cX12_span 95 = .ok (.aload_n 0, 1) := by decide +kernel
theorem dX12_span_96 : decode cX12_span 96 = .ok (.getfield 67, 3) := by decide +kernel
theorem dX12_span_99 : decode cX12_span 99 = .ok (.bipush 33, 2) := by decide +kernel
theorem dX12_span_101 : decode cX12_span 101 = .ok (.iaload, 1) := by decide +kernel
theorem dX12_span_102 : decode cX12_span 102 = .ok (.isub, 1) := by decide +kernel
theorem dX12_span_103 : decode cX12_span 103 = .ok (.istore 11, 2) := by decide +kernel
theorem dX12_span_105 : decode cX12_span 105 = .ok (.iload 7, 2) := by decide +kernel
theorem dX12_span_107 : decode cX12_span 107 = .ok (.iconst (-1), 1) := by decide +kernel
theorem dX12_span_108 : decode cX12_span 108 = .ok (.if_icmp .ne 8, 3) := by decide +kernel
theorem dX12_span_111 : decode cX12_span 111 = .ok (.iload 11, 2) := by decide +kernel
theorem dX12_span_113 : decode cX12_span 113 = .ok (.goto 10, 3) := by decide +kernel
theorem dX12_span_116 : decode cX12_span 116 = .ok (.iload 7, 2) := by decide +kernel
theorem dX12_span_118 : decode cX12_span 118 = .ok (.iload 11, 2) := by decide +kernel
theorem dX12_span_120 : decode cX12_span 120 = .ok (.invokestatic 234, 3) := by decide +kernel
theorem dX12_span_123 : decode cX12_span 123 = .ok (.istore 7, 2) := by decide +kernel
theorem dX12_span_125 : decode cX12_span 125 = .ok (.iload 8, 2) := by decide +kernel
theorem dX12_span_127 : decode cX12_span 127 = .ok (.iload 11, 2) := by decide +kernel
theorem dX12_span_129 : decode cX12_span 129 = .ok (.invokestatic 237, 3) := by decide +kernel
theorem dX12_span_132 : decode cX12_span 132 = .ok (.istore 8, 2) := by decide +kernel
theorem dX12_span_134 : decode cX12_span 134 = .ok (.iload 9, 2) := by decide +kernel
theorem dX12_span_136 : decode cX12_span 136 = .ok (.aload_n 0, 1) := by decide +kernel
theorem dX12_span_137 : decode cX12_span 137 = .ok (.getfield 70, 3) := by decide +kernel
theorem dX12_span_140 : decode cX12_span 140 = .ok (.bipush 24, 2) := by decide +kernel
theorem dX12_span_142 : decode cX12_span 142 = .ok (.iload 6, 2) := by decide +kernel
theorem dX12_span_144 : decode cX12_span 144 = .ok (.iadd, 1) := by decide +kernel
theorem dX12_span_145 : decode cX12_span 145 = .ok (.iaload, 1) := by decide +kernel
theorem dX12_span_146 : decode cX12_span 146 = .ok (.ifCond .le 7, 3) := by decide +kernel
theorem dX12_span_149 : decode cX12_span 149 = .ok (.iconst 1, 1) := by decide +kernel
theorem dX12_span_150 : decode cX12_span 150 = .ok (.goto 4, 3) := by decide +kernel
theorem dX12_span_153 : decode cX12_span 153 = .ok (.iconst 0, 1) := by decide +kernel
theorem dX12_span_154 : decode cX12_span 154 = .ok (.iadd, 1) := by decide +kernel
theorem dX12_span_155 : decode cX12_span 155 = .ok (.istore 9, 2) := by decide +kernel
theorem dX12_span_157 : decode cX12_span 157 = .ok (.iinc 10 1, 3) := by decide +kernel
theorem dX12_span_160 : decode cX12_span 160 = .ok (.goto (-89), 3) := by decide +kernel
theorem dX12_span_163 : decode cX12_span 163 = .ok (.iload 5, 2) := by decide +kernel
theorem dX12_span_165 : decode cX12_span 165 = .ok (.ifCond .ne 8, 3) := by decide +kernel
theorem dX12_span_168 : decode cX12_span 168 = .ok (.iload 7, 2) := by decide +kernel
theorem dX12_span_170 : decode cX12_span 170 = .ok (.goto 16, 3) := by decide +kernel
theorem dX12_span_173 : decode cX12_span 173 = .ok (.iload 5, 2) := by decide +kernel
theorem dX12_span_175 : decode cX12_span 175 = .ok (.iconst 1, 1) := by decide +kernel
theorem dX12_span_176 : decode cX12_span 176 = .ok (.if_icmp .ne 8, 3) := by decide +kernel
theorem dX12_span_179 : decode cX12_span 179 = .ok (.iload 8, 2) := by decide +kernel
theorem dX12_span_181 : decode cX12_span 181 = .ok (.goto 5, 3) := by decide +kernel
theorem dX12_span_184 : decode cX12_span 184 = .ok (.iload 9, 2) := by decide +kernel
theorem dX12_span_186 : decode cX12_span 186 = .ok (.ireturn, 1) := by decide +kernel
theorem dX12_puts_0 : decode cX12_puts 0 = .ok (.iload_n 3, 1) := by decide +kernel
theorem dX12_puts_1 : decode cX12_puts 1 = .ok (.ifCond .ne 10, 3) := by decide +kernel
theorem dX12_puts_4 : decode cX12_puts 4 = .ok (.aload_n 1, 1) := by decide +kernel
theorem dX12_puts_5 : decode cX12_puts 5 = .ok (.aload_n 0, 1) := by decide +kernel
theorem dX12_puts_6 : decode cX12_puts 6 = .ok (.getfield 426, 3) := by decide +kernel
theorem dX12_puts_9 : decode cX12_puts 9 = .ok (.iload_n 2, 1) := by decide +kernel
theorem dX12_puts_10 : decode cX12_puts 10 = .ok (.iastore, 1) := by decide +kernel
theorem dX12_puts_11 : decode cX12_puts 11 = .ok (.aload_n 0, 1) := by decide +kernel
theorem dX12_puts_12 : decode cX12_puts 12 = .ok (.dup, 1) := by decide +kernel
theorem dX12_puts_13 : decode cX12_puts 13 = .ok (.getfield 426, 3) := by decide +kernel
theorem dX12_puts_16 : decode cX12_puts 16 = .ok (.iconst 1, 1) := by decide +kernel
theorem dX12_puts_17 : decode cX12_puts 17 = .ok (.iadd, 1) := by decide +kernel
theorem dX12_puts_18 : decode cX12_puts 18 = .ok (.putfield 426, 3) := by decide +kernel
theorem dX12_puts_21 : decode cX12_puts 21 = .ok (.aload_n 1, 1) := by decide +kernel
theorem dX12_puts_22 : decode cX12_puts 22 = .ok (.aload_n 0, 1) := by decide +kernel
theorem dX12_puts_23 : decode cX12_puts 23 = .ok (.getfield 426, 3) := by decide +kernel
theorem dX12_puts_26 : decode cX12_puts 26 = .ok (.iconst 1, 1) := by decide +kernel
theorem dX12_puts_27 : decode cX12_puts 27 = .ok (.isub, 1) := by decide +kernel
theorem dX12_puts_28 : decode cX12_puts 28 = .ok (.iaload, 1) := by decide +kernel
theorem dX12_puts_29 : decode cX12_puts 29 = .ok (.ireturn, 1) := by decide +kernel
theorem dX12_putsAll_0 : decode cX12_putsAll 0 = .ok (.aload_n 0, 1) := by decide +kernel
theorem dX12_putsAll_1 : decode cX12_putsAll 1 = .ok (.iconst 0, 1) := by decide +kernel
theorem dX12_putsAll_2 : decode cX12_putsAll 2 = .ok (.putfield 426, 3) := by decide +kernel
theorem dX12_putsAll_5 : decode cX12_putsAll 5 = .ok (.aload_n 0, 1) := by decide +kernel
theorem dX12_putsAll_6 : decode cX12_putsAll 6 = .ok (.aload_n 0, 1) := by decide +kernel
theorem dX12_putsAll_7 : decode cX12_putsAll 7 = .ok (.aload_n 1, 1) := by decide +kernel
theorem dX12_putsAll_8 : decode cX12_putsAll 8 = .ok (.aload_n 0, 1) := by decide +kernel
theorem dX12_putsAll_9 : decode cX12_putsAll 9 = .ok (.getfield 193, 3) := by decide +kernel
theorem dX12_putsAll_12 : decode cX12_putsAll 12 = .ok (.iload_n 2, 1) := by decide +kernel
theorem dX12_putsAll_13 : decode cX12_putsAll 13 = .ok (.invokevirtual 429, 3) := by decide +kernel
theorem dX12_putsAll_16 : decode cX12_putsAll 16 = .ok (.putfield 193, 3) := by decide +kernel
theorem dX12_putsAll_19 : decode cX12_putsAll 19 = .ok (.iconst 0, 1) := by decide +kernel
theorem dX12_putsAll_20 : decode cX12_putsAll 20 = .ok (.istore_n 3, 1) := by decide +kernel
theorem dX12_putsAll_21 : decode cX12_putsAll 21 = .ok (.iload_n 3, 1) := by decide +kernel
theorem dX12_putsAll_22 : decode cX12_putsAll 22 = .ok (.sipush 419, 3) := by decide +kernel
theorem dX12_putsAll_25 : decode cX12_putsAll 25 = .ok (.if_icmp .ge 27, 3) := by decide +kernel
theorem dX12_putsAll_28 : decode cX12_putsAll 28 = .ok (.aload_n 0, 1) := by decide +kernel
theorem dX12_putsAll_29 : decode cX12_putsAll 29 = .ok (.getfield 67, 3) := by decide +kernel
theorem dX12_putsAll_32 : decode cX12_putsAll 32 = .ok (.iload_n 3, 1) := by decide +kernel
theorem dX12_putsAll_33 : decode cX12_putsAll 33 = .ok (.aload_n 0, 1) := by decide +kernel
theorem dX12_putsAll_34 : decode cX12_putsAll 34 = .ok (.aload_n 1, 1) := by decide +kernel
theorem dX12_putsAll_35 : decode cX12_putsAll 35 = .ok (.aload_n 0, 1) := by decide +kernel
theorem dX12_putsAll_36 : decode cX12_putsAll 36 = .ok (.getfield 67, 3) := by decide +kernel
theorem dX12_putsAll_39 : decode cX12_putsAll 39 = .ok (.iload_n 3, 1) := by decide +kernel
theorem dX12_putsAll_40 : decode cX12_putsAll 40 = .ok (.iaload, 1) := by decide +kernel
theorem dX12_putsAll_41 : decode cX12_putsAll 41 = .ok (.iload_n 2, 1) := by decide +kernel
theorem dX12_putsAll_42 : decode cX12_putsAll 42 = .ok (.invokevirtual 429, 3) := by decide +kernel
theorem dX12_putsAll_45 : decode cX12_putsAll 45 = .ok (.iastore, 1) := by decide +kernel
theorem dX12_putsAll_46 : decode cX12_putsAll 46 = .ok (.iinc 3 1, 3) := by decide +kernel
theorem dX12_putsAll_49 : decode cX12_putsAll 49 = .ok (.goto (-28), 3) := by decide +kernel
theorem dX12_putsAll_52 : decode cX12_putsAll 52 = .ok (.iconst 0, 1) := by decide +kernel
theorem dX12_putsAll_53 : decode cX12_putsAll 53 = .ok (.istore_n 3, 1) := by decide +kernel
theorem dX12_putsAll_54 : decode cX12_putsAll 54 = .ok (.iload_n 3, 1) := by decide +kernel
theorem dX12_putsAll_55 : decode cX12_putsAll 55 = .ok (.bipush 16, 2) := by decide +kernel
theorem dX12_putsAll_57 : decode cX12_putsAll 57 = .ok (.if_icmp .ge 50, 3) := by decide +kernel
theorem dX12_putsAll_60 : decode cX12_putsAll 60 = .ok (.iconst 0, 1) := by decide +kernel
theorem dX12_putsAll_61 : decode cX12_putsAll 61 = .ok (.istore 4, 2) := by decide +kernel
theorem dX12_putsAll_63 : decode cX12_putsAll 63 = .ok (.iload 4, 2) := by decide +kernel
theorem dX12_putsAll_65 : decode cX12_putsAll 65 = .ok (.sipush 419, 3) := by decide +kernel
theorem dX12_putsAll_68 : decode cX12_putsAll 68 = .ok (.if_icmp .ge 33, 3) := by decide +kernel
theorem dX12_putsAll_71 : decode cX12_putsAll 71 = .ok (.aload_n 0, 1) := by decide +kernel
theorem dX12_putsAll_72 : decode cX12_putsAll 72 = .ok (.getfield 73, 3) := by decide +kernel
theorem dX12_putsAll_75 : decode cX12_putsAll 75 = .ok (.iload_n 3, 1) := by decide +kernel
theorem dX12_putsAll_76 : decode cX12_putsAll 76 = .ok (.aaload, 1) := by decide +kernel
theorem dX12_putsAll_77 : decode cX12_putsAll 77 = .ok (.iload 4, 2) := by decide +kernel
theorem dX12_putsAll_79 : decode cX12_putsAll 79 = .ok (.aload_n 0, 1) := by decide +kernel
theorem dX12_putsAll_80 : decode cX12_putsAll 80 = .ok (.aload_n 1, 1) := by decide +kernel
theorem dX12_putsAll_81 : decode cX12_putsAll 81 = .ok (.aload_n 0, 1) := by decide +kernel
theorem dX12_putsAll_82 : decode cX12_putsAll 82 = .ok (.getfield 73, 3) := by decide +kernel
theorem dX12_putsAll_85 : decode cX12_putsAll 85 = .ok (.iload_n 3, 1) := by decide +kernel
theorem dX12_putsAll_86 : decode cX12_putsAll 86 = .ok (.aaload, 1) := by decide +kernel
theorem dX12_putsAll_87 : decode cX12_putsAll 87 = .ok (.iload 4, 2) := by decide +kernel
theorem dX12_putsAll_89 : decode cX12_putsAll 89 = .ok (.iaload, 1) := by decide +kernel
theorem dX12_putsAll_90 : decode cX12_putsAll 90 = .ok (.iload_n 2, 1) := by decide +kernel
theorem dX12_putsAll_91 : decode cX12_putsAll 91 = .ok (.invokevirtual 429, 3) := by decide +kernel
theorem dX12_putsAll_94 : decode cX12_putsAll 94 = .ok (.iastore, 1) := by decide +kernel
theorem dX12_putsAll_95 : decode cX12_putsAll 95 = .ok (.iinc 4 1, 3) := by decide +kernel
theorem dX12_putsAll_98 : decode cX12_putsAll 98 = .ok (.goto (-35), 3) := by decide +kernel
theorem dX12_putsAll_101 : decode cX12_putsAll 101 = .ok (.iinc 3 1, 3) := by decide +kernel
theorem dX12_putsAll_104 : decode cX12_putsAll 104 = .ok (.goto (-50), 3) := by decide +kernel
theorem dX12_putsAll_107 : decode cX12_putsAll 107 = .ok (.return_, 1) := by decide +kernel
theorem dX12_image_0 : decode cX12_image 0 = .ok (.aload_n 0, 1) := by decide +kernel
theorem dX12_image_1 : decode cX12_image 1 = .ok (.iconst 0, 1) := by decide +kernel
theorem dX12_image_2 : decode cX12_image 2 = .ok (.putfield 94, 3) := by decide +kernel
theorem dX12_image_5 : decode cX12_image 5 = .ok (.aload_n 0, 1) := by decide +kernel
theorem dX12_image_6 : decode cX12_image 6 = .ok (.getfield 199, 3) := by decide +kernel
theorem dX12_image_9 : decode cX12_image 9 = .ok (.iconst 3, 1) := by decide +kernel
theorem dX12_image_10 : decode cX12_image 10 = .ok (.if_icmp .ne 5, 3) := by decide +kernel
theorem dX12_image_13 : decode cX12_image 13 = .ok (.iconst (-1), 1) := by decide +kernel
theorem dX12_image_14 : decode cX12_image 14 = .ok (.ireturn, 1) := by decide +kernel
theorem dX12_image_15 : decode cX12_image 15 = .ok (.aload_n 0, 1) := by decide +kernel
theorem dX12_image_16 : decode cX12_image 16 = .ok (.aload_n 0, 1) := by decide +kernel
theorem dX12_image_17 : decode cX12_image 17 = .ok (.getfield 76, 3) := by decide +kernel
theorem dX12_image_20 : decode cX12_image 20 = .ok (.aload_n 0, 1) := by decide +kernel
theorem dX12_image_21 : decode cX12_image 21 = .ok (.getfield 199, 3) := by decide +kernel
theorem dX12_image_24 : decode cX12_image 24 = .ok (.aaload, 1) := by decide +kernel
theorem dX12_image_25 : decode cX12_image 25 = .ok (.iconst 0, 1) := by decide +kernel
theorem dX12_image_26 : decode cX12_image 26 = .ok (.invokevirtual 433, 3) := by decide +kernel
theorem dX12_image_29 : decode cX12_image 29 = .ok (.aload_n 0, 1) := by decide +kernel
theorem dX12_image_30 : decode cX12_image 30 = .ok (.dup, 1) := by decide +kernel
theorem dX12_image_31 : decode cX12_image 31 = .ok (.getfield 199, 3) := by decide +kernel
theorem dX12_image_34 : decode cX12_image 34 = .ok (.iconst 1, 1) := by decide +kernel
theorem dX12_image_35 : decode cX12_image 35 = .ok (.iadd, 1) := by decide +kernel
theorem dX12_image_36 : decode cX12_image 36 = .ok (.putfield 199, 3) := by decide +kernel
theorem dX12_image_39 : decode cX12_image 39 = .ok (.aload_n 0, 1) := by decide +kernel
theorem dX12_image_40 : decode cX12_image 40 = .ok (.getfield 199, 3) := by decide +kernel
theorem dX12_image_43 : decode cX12_image 43 = .ok (.ireturn, 1) := by decide +kernel
theorem dX12_restore_0 : decode cX12_restore 0 = .ok (.aload_n 0, 1) := by decide +kernel
theorem dX12_restore_1 : decode cX12_restore 1 = .ok (.iconst 0, 1) := by decide +kernel
theorem dX12_restore_2 : decode cX12_restore 2 = .ok (.putfield 94, 3) := by decide +kernel
theorem dX12_restore_5 : decode cX12_restore 5 = .ok (.aload_n 0, 1) := by decide +kernel
theorem dX12_restore_6 : decode cX12_restore 6 = .ok (.getfield 199, 3) := by decide +kernel
theorem dX12_restore_9 : decode cX12_restore 9 = .ok (.ifCond .ne 5, 3) := by decide +kernel
theorem dX12_restore_12 : decode cX12_restore 12 = .ok (.iconst (-1), 1) := by decide +kernel
theorem dX12_restore_13 : decode cX12_restore 13 = .ok (.ireturn, 1) := by decide +kernel
theorem dX12_restore_14 : decode cX12_restore 14 = .ok (.aload_n 0, 1) := by decide +kernel
theorem dX12_restore_15 : decode cX12_restore 15 = .ok (.dup, 1) := by decide +kernel
theorem dX12_restore_16 : decode cX12_restore 16 = .ok (.getfield 199, 3) := by decide +kernel
theorem dX12_restore_19 : decode cX12_restore 19 = .ok (.iconst 1, 1) := by decide +kernel
theorem dX12_restore_20 : decode cX12_restore 20 = .ok (.isub, 1) := by decide +kernel
theorem dX12_restore_21 : decode cX12_restore 21 = .ok (.putfield 199, 3) := by decide +kernel
theorem dX12_restore_24 : decode cX12_restore 24 = .ok (.aload_n 0, 1) := by decide +kernel
theorem dX12_restore_25 : decode cX12_restore 25 = .ok (.aload_n 0, 1) := by decide +kernel
theorem dX12_restore_26 : decode cX12_restore 26 = .ok (.getfield 76, 3) := by decide +kernel
theorem dX12_restore_29 : decode cX12_restore 29 = .ok (.aload_n 0, 1) := by decide +kernel
theorem dX12_restore_30 : decode cX12_restore 30 = .ok (.getfield 199, 3) := by decide +kernel
theorem dX12_restore_33 : decode cX12_restore 33 = .ok (.aaload, 1) := by decide +kernel
theorem dX12_restore_34 : decode cX12_restore 34 = .ok (.iconst 1, 1) := by decide +kernel
theorem dX12_restore_35 : decode cX12_restore 35 = .ok (.invokevirtual 433, 3) := by decide +kernel
theorem dX12_restore_38 : decode cX12_restore 38 = .ok (.aload_n 0, 1) := by decide +kernel
theorem dX12_restore_39 : decode cX12_restore 39 = .ok (.iconst 0, 1) := by decide +kernel
theorem dX12_restore_40 : decode cX12_restore 40 = .ok (.putfield 196, 3) := by decide +kernel
theorem dX12_restore_43 : decode cX12_restore 43 = .ok (.aload_n 0, 1) := by decide +kernel
theorem dX12_restore_44 : decode cX12_restore 44 = .ok (.getfield 199, 3) := by decide +kernel
theorem dX12_restore_47 : decode cX12_restore 47 = .ok (.ireturn, 1) := by decide +kernel
theorem dX12_status_0 : decode cX12_status 0 = .ok (.aload_n 0, 1) := by decide +kernel
theorem dX12_status_1 : decode cX12_status 1 = .ok (.iconst 0, 1) := by decide +kernel
theorem dX12_status_2 : decode cX12_status 2 = .ok (.putfield 94, 3) := by decide +kernel
theorem dX12_status_5 : decode cX12_status 5 = .ok (.iload_n 1, 1) := by decide +kernel
theorem dX12_status_6 : decode cX12_status 6 = .ok (.iconst 0, 1) := by decide +kernel
theorem dX12_status_7 : decode cX12_status 7 = .ok (.iconst 4, 1) := by decide +kernel
theorem dX12_status_8 : decode cX12_status 8 = .ok (.invokestatic 128, 3) := by decide +kernel
theorem dX12_status_11 : decode cX12_status 11 = .ok (.ifCond .eq 12, 3) := by decide +kernel
theorem dX12_status_14 : decode cX12_status 14 = .ok (.aload_n 0, 1) := by decide +kernel
theorem dX12_status_15 : decode cX12_status 15 = .ok (.getfield 17, 3) := by decide +kernel
theorem dX12_status_18 : decode cX12_status 18 = .ok (.iload_n 1, 1) := by decide +kernel
theorem dX12_status_19 : decode cX12_status 19 = .ok (.iaload, 1) := by decide +kernel
theorem dX12_status_20 : decode cX12_status 20 = .ok (.goto 4, 3) := by decide +kernel
theorem dX12_status_23 : decode cX12_status 23 = .ok (.iconst (-1), 1) := by decide +kernel
theorem dX12_status_24 : decode cX12_status 24 = .ok (.ireturn, 1) := by decide +kernel
theorem dX12_count_0 : decode cX12_count 0 = .ok (.aload_n 0, 1) := by decide +kernel
theorem dX12_count_1 : decode cX12_count 1 = .ok (.iconst 0, 1) := by decide +kernel
theorem dX12_count_2 : decode cX12_count 2 = .ok (.putfield 94, 3) := by decide +kernel
theorem dX12_count_5 : decode cX12_count 5 = .ok (.iload_n 1, 1) := by decide +kernel
theorem dX12_count_6 : decode cX12_count 6 = .ok (.ifCond .ne 10, 3) := by decide +kernel
theorem dX12_count_9 : decode cX12_count 9 = .ok (.aload_n 0, 1) := by decide +kernel
theorem dX12_count_10 : decode cX12_count 10 = .ok (.getfield 199, 3) := by decide +kernel
theorem dX12_count_13 : decode cX12_count 13 = .ok (.goto 28, 3) := by decide +kernel
theorem dX12_count_16 : decode cX12_count 16 = .ok (.iload_n 1, 1) := by decide +kernel
theorem dX12_count_17 : decode cX12_count 17 = .ok (.iconst 1, 1) := by decide +kernel
theorem dX12_count_18 : decode cX12_count 18 = .ok (.if_icmp .ne 10, 3) := by decide +kernel
theorem dX12_count_21 : decode cX12_count 21 = .ok (.aload_n 0, 1) := by decide +kernel
theorem dX12_count_22 : decode cX12_count 22 = .ok (.getfield 97, 3) := by decide +kernel
theorem dX12_count_25 : decode cX12_count 25 = .ok (.goto 16, 3) := by decide +kernel
theorem dX12_count_28 : decode cX12_count 28 = .ok (.iload_n 1, 1) := by decide +kernel
theorem dX12_count_29 : decode cX12_count 29 = .ok (.iconst 2, 1) := by decide +kernel
theorem dX12_count_30 : decode cX12_count 30 = .ok (.if_icmp .ne 10, 3) := by decide +kernel
theorem dX12_count_33 : decode cX12_count 33 = .ok (.aload_n 0, 1) := by decide +kernel
theorem dX12_count_34 : decode cX12_count 34 = .ok (.getfield 193, 3) := by decide +kernel
theorem dX12_count_37 : decode cX12_count 37 = .ok (.goto 4, 3) := by decide +kernel
theorem dX12_count_40 : decode cX12_count 40 = .ok (.iconst (-1), 1) := by decide +kernel
theorem dX12_count_41 : decode cX12_count 41 = .ok (.ireturn, 1) := by decide +kernel
theorem dJx00060_init_a7421_0 : decode cJx00060_init_a7421 0 = .ok (.aload_n 0, 1) := by decide +kernel
theorem dJx00060_init_a7421_1 : decode cJx00060_init_a7421 1 = .ok (.aload_n 1, 1) := by decide +kernel
theorem dJx00060_init_a7421_2 : decode cJx00060_init_a7421 2 = .ok (.invokespecial 7, 3) := by decide +kernel
theorem dJx00060_init_a7421_5 : decode cJx00060_init_a7421 5 = .ok (.return_, 1) := by decide +kernel
theorem dJ9_abs_067f4_0 : decode cJ9_abs_067f4 0 = .ok (.lload_n 0, 1) := by decide +kernel
theorem dJ9_abs_067f4_1 : decode cJ9_abs_067f4 1 = .ok (.lconst 0, 1) := by decide +kernel
theorem dJ9_abs_067f4_2 : decode cJ9_abs_067f4 2 = .ok (.lcmp, 1) := by decide +kernel
theorem dJ9_abs_067f4_3 : decode cJ9_abs_067f4 3 = .ok (.ifCond .ge 8, 3) := by decide +kernel
theorem dJ9_abs_067f4_6 : decode cJ9_abs_067f4 6 = .ok (.lload_n 0, 1) := by decide +kernel
theorem dJ9_abs_067f4_7 : decode cJ9_abs_067f4 7 = .ok (.lneg, 1) := by decide +kernel
theorem dJ9_abs_067f4_8 : decode cJ9_abs_067f4 8 = .ok (.goto 4, 3) := by decide +kernel
theorem dJ9_abs_067f4_11 : decode cJ9_abs_067f4 11 = .ok (.lload_n 0, 1) := by decide +kernel
theorem dJ9_abs_067f4_12 : decode cJ9_abs_067f4 12 = .ok (.lreturn, 1) := by decide +kernel
theorem dJ9_max_7cf53_0 : decode cJ9_max_7cf53 0 = .ok (.iload_n 0, 1) := by decide +kernel
theorem dJ9_max_7cf53_1 : decode cJ9_max_7cf53 1 = .ok (.iload_n 1, 1) := by decide +kernel
theorem dJ9_max_7cf53_2 : decode cJ9_max_7cf53 2 = .ok (.if_icmp .lt 7, 3) := by decide +kernel
theorem dJ9_max_7cf53_5 : decode cJ9_max_7cf53 5 = .ok (.iload_n 0, 1) := by decide +kernel
theorem dJ9_max_7cf53_6 : decode cJ9_max_7cf53 6 = .ok (.goto 4, 3) := by decide +kernel
theorem dJ9_max_7cf53_9 : decode cJ9_max_7cf53 9 = .ok (.iload_n 1, 1) := by decide +kernel
theorem dJ9_max_7cf53_10 : decode cJ9_max_7cf53 10 = .ok (.ireturn, 1) := by decide +kernel
theorem dJ9_min_7cf53_0 : decode cJ9_min_7cf53 0 = .ok (.iload_n 0, 1) := by decide +kernel
theorem dJ9_min_7cf53_1 : decode cJ9_min_7cf53 1 = .ok (.iload_n 1, 1) := by decide +kernel
theorem dJ9_min_7cf53_2 : decode cJ9_min_7cf53 2 = .ok (.if_icmp .gt 7, 3) := by decide +kernel
theorem dJ9_min_7cf53_5 : decode cJ9_min_7cf53 5 = .ok (.iload_n 0, 1) := by decide +kernel
theorem dJ9_min_7cf53_6 : decode cJ9_min_7cf53 6 = .ok (.goto 4, 3) := by decide +kernel
theorem dJ9_min_7cf53_9 : decode cJ9_min_7cf53 9 = .ok (.iload_n 1, 1) := by decide +kernel
theorem dJ9_min_7cf53_10 : decode cJ9_min_7cf53 10 = .ok (.ireturn, 1) := by decide +kernel
theorem dJ9_min_f86c9_0 : decode cJ9_min_f86c9 0 = .ok (.lload_n 0, 1) := by decide +kernel
theorem dJ9_min_f86c9_1 : decode cJ9_min_f86c9 1 = .ok (.lload_n 2, 1) := by decide +kernel
theorem dJ9_min_f86c9_2 : decode cJ9_min_f86c9 2 = .ok (.lcmp, 1) := by decide +kernel
theorem dJ9_min_f86c9_3 : decode cJ9_min_f86c9 3 = .ok (.ifCond .gt 7, 3) := by decide +kernel
theorem dJ9_min_f86c9_6 : decode cJ9_min_f86c9 6 = .ok (.lload_n 0, 1) := by decide +kernel
theorem dJ9_min_f86c9_7 : decode cJ9_min_f86c9 7 = .ok (.goto 4, 3) := by decide +kernel
theorem dJ9_min_f86c9_10 : decode cJ9_min_f86c9 10 = .ok (.lload_n 2, 1) := by decide +kernel
theorem dJ9_min_f86c9_11 : decode cJ9_min_f86c9 11 = .ok (.lreturn, 1) := by decide +kernel
theorem dJx5d777_init_da8c8_0 : decode cJx5d777_init_da8c8 0 = .ok (.aload_n 0, 1) := by decide +kernel
theorem dJx5d777_init_da8c8_1 : decode cJx5d777_init_da8c8 1 = .ok (.invokespecial 1, 3) := by decide +kernel
theorem dJx5d777_init_da8c8_4 : decode cJx5d777_init_da8c8 4 = .ok (.return_, 1) := by decide +kernel
theorem dJx5d777_init_a7421_0 : decode cJx5d777_init_a7421 0 = .ok (.aload_n 0, 1) := by decide +kernel
theorem dJx5d777_init_a7421_1 : decode cJx5d777_init_a7421 1 = .ok (.aload_n 1, 1) := by decide +kernel
theorem dJx5d777_init_a7421_2 : decode cJx5d777_init_a7421 2 = .ok (.invokespecial 7, 3) := by decide +kernel
theorem dJx5d777_init_a7421_5 : decode cJx5d777_init_a7421 5 = .ok (.return_, 1) := by decide +kernel
theorem dJx5d777_fillInStackTrace_cddbd_0 : decode cJx5d777_fillInStackTrace_cddbd 0 = .ok (.aload_n 0, 1) := by decide +kernel
theorem dJx5d777_fillInStackTrace_cddbd_1 : decode cJx5d777_fillInStackTrace_cddbd 1 = .ok (.getfield 10, 3) := by decide +kernel
theorem dJx5d777_fillInStackTrace_cddbd_4 : decode cJx5d777_fillInStackTrace_cddbd 4 = .ok (.ifCond .ne 11, 3) := by decide +kernel
theorem dJx5d777_fillInStackTrace_cddbd_7 : decode cJx5d777_fillInStackTrace_cddbd 7 = .ok (.aload_n 0, 1) := by decide +kernel
theorem dJx5d777_fillInStackTrace_cddbd_8 : decode cJx5d777_fillInStackTrace_cddbd 8 = .ok (.iconst 1, 1) := by decide +kernel
theorem dJx5d777_fillInStackTrace_cddbd_9 : decode cJx5d777_fillInStackTrace_cddbd 9 = .ok (.putfield 10, 3) := by decide +kernel
theorem dJx5d777_fillInStackTrace_cddbd_12 : decode cJx5d777_fillInStackTrace_cddbd 12 = .ok (.goto 24, 3) := by decide +kernel
theorem dJx5d777_fillInStackTrace_cddbd_15 : decode cJx5d777_fillInStackTrace_cddbd 15 = .ok (.aload_n 0, 1) := by decide +kernel
theorem dJx5d777_fillInStackTrace_cddbd_16 : decode cJx5d777_fillInStackTrace_cddbd 16 = .ok (.getfield 10, 3) := by decide +kernel
theorem dJx5d777_fillInStackTrace_cddbd_19 : decode cJx5d777_fillInStackTrace_cddbd 19 = .ok (.iconst 1, 1) := by decide +kernel
theorem dJx5d777_fillInStackTrace_cddbd_20 : decode cJx5d777_fillInStackTrace_cddbd 20 = .ok (.if_icmp .ne 16, 3) := by decide +kernel
theorem dJx5d777_fillInStackTrace_cddbd_23 : decode cJx5d777_fillInStackTrace_cddbd 23 = .ok (.aload_n 0, 1) := by decide +kernel
theorem dJx5d777_fillInStackTrace_cddbd_24 : decode cJx5d777_fillInStackTrace_cddbd 24 = .ok (.aload_n 0, 1) := by decide +kernel
theorem dJx5d777_fillInStackTrace_cddbd_25 : decode cJx5d777_fillInStackTrace_cddbd 25 = .ok (.invokevirtual 16, 3) := by decide +kernel
theorem dJx5d777_fillInStackTrace_cddbd_28 : decode cJx5d777_fillInStackTrace_cddbd 28 = .ok (.putfield 20, 3) := by decide +kernel
theorem dJx5d777_fillInStackTrace_cddbd_31 : decode cJx5d777_fillInStackTrace_cddbd 31 = .ok (.aload_n 0, 1) := by decide +kernel
theorem dJx5d777_fillInStackTrace_cddbd_32 : decode cJx5d777_fillInStackTrace_cddbd 32 = .ok (.iconst 2, 1) := by decide +kernel
theorem dJx5d777_fillInStackTrace_cddbd_33 : decode cJx5d777_fillInStackTrace_cddbd 33 = .ok (.putfield 10, 3) := by decide +kernel
theorem dJx5d777_fillInStackTrace_cddbd_36 : decode cJx5d777_fillInStackTrace_cddbd 36 = .ok (.aload_n 0, 1) := by decide +kernel
theorem dJx5d777_fillInStackTrace_cddbd_37 : decode cJx5d777_fillInStackTrace_cddbd 37 = .ok (.invokespecial 24, 3) := by decide +kernel
theorem dJx5d777_fillInStackTrace_cddbd_40 : decode cJx5d777_fillInStackTrace_cddbd 40 = .ok (.areturn, 1) := by decide +kernel
theorem dJ0_length_8abf5_0 : decode cJ0_length_8abf5 0 = .ok (.aload_n 0, 1) := by decide +kernel
theorem dJ0_length_8abf5_1 : decode cJ0_length_8abf5 1 = .ok (.getfield 9, 3) := by decide +kernel
theorem dJ0_length_8abf5_4 : decode cJ0_length_8abf5 4 = .ok (.arraylength, 1) := by decide +kernel
theorem dJ0_length_8abf5_5 : decode cJ0_length_8abf5 5 = .ok (.aload_n 0, 1) := by decide +kernel
theorem dJ0_length_8abf5_6 : decode cJ0_length_8abf5 6 = .ok (.invokevirtual 335, 3) := by decide +kernel
theorem dJ0_length_8abf5_9 : decode cJ0_length_8abf5 9 = .ok (.ishr, 1) := by decide +kernel
theorem dJ0_length_8abf5_10 : decode cJ0_length_8abf5 10 = .ok (.ireturn, 1) := by decide +kernel
theorem dJ0_charAt_5068e_0 : decode cJ0_charAt_5068e 0 = .ok (.aload_n 0, 1) := by decide +kernel
theorem dJ0_charAt_5068e_1 : decode cJ0_charAt_5068e 1 = .ok (.invokevirtual 492, 3) := by decide +kernel
theorem dJ0_charAt_5068e_4 : decode cJ0_charAt_5068e 4 = .ok (.ifCond .eq 12, 3) := by decide +kernel
theorem dJ0_charAt_5068e_7 : decode cJ0_charAt_5068e 7 = .ok (.aload_n 0, 1) := by decide +kernel
theorem dJ0_charAt_5068e_8 : decode cJ0_charAt_5068e 8 = .ok (.getfield 9, 3) := by decide +kernel
theorem dJ0_charAt_5068e_11 : decode cJ0_charAt_5068e 11 = .ok (.iload_n 1, 1) := by decide +kernel
theorem dJ0_charAt_5068e_12 : decode cJ0_charAt_5068e 12 = .ok (.invokestatic 495, 3) := by decide +kernel
theorem dJ0_charAt_5068e_15 : decode cJ0_charAt_5068e 15 = .ok (.ireturn, 1) := by decide +kernel
theorem dJ0_charAt_5068e_16 : decode cJ0_charAt_5068e 16 = .ok (.aload_n 0, 1) := by decide +kernel
theorem dJ0_charAt_5068e_17 : decode cJ0_charAt_5068e 17 = .ok (.getfield 9, 3) := by decide +kernel
theorem dJ0_charAt_5068e_20 : decode cJ0_charAt_5068e 20 = .ok (.iload_n 1, 1) := by decide +kernel
theorem dJ0_charAt_5068e_21 : decode cJ0_charAt_5068e 21 = .ok (.invokestatic 498, 3) := by decide +kernel
theorem dJ0_charAt_5068e_24 : decode cJ0_charAt_5068e 24 = .ok (.ireturn, 1) := by decide +kernel
theorem dJ0_coder_7d493_0 : decode cJ0_coder_7d493 0 = .ok (.getstatic 38, 3) := by decide +kernel
theorem dJ0_coder_7d493_3 : decode cJ0_coder_7d493 3 = .ok (.ifCond .eq 10, 3) := by decide +kernel
theorem dJ0_coder_7d493_6 : decode cJ0_coder_7d493 6 = .ok (.aload_n 0, 1) := by decide +kernel
theorem dJ0_coder_7d493_7 : decode cJ0_coder_7d493 7 = .ok (.getfield 15, 3) := by decide +kernel
theorem dJ0_coder_7d493_10 : decode cJ0_coder_7d493 10 = .ok (.goto 4, 3) := by decide +kernel
theorem dJ0_coder_7d493_13 : decode cJ0_coder_7d493 13 = .ok (.iconst 1, 1) := by decide +kernel
theorem dJ0_coder_7d493_14 : decode cJ0_coder_7d493 14 = .ok (.ireturn, 1) := by decide +kernel
theorem dJ0_isLatin1_aae02_0 : decode cJ0_isLatin1_aae02 0 = .ok (.getstatic 38, 3) := by decide +kernel
theorem dJ0_isLatin1_aae02_3 : decode cJ0_isLatin1_aae02 3 = .ok (.ifCond .eq 14, 3) := by decide +kernel
theorem dJ0_isLatin1_aae02_6 : decode cJ0_isLatin1_aae02 6 = .ok (.aload_n 0, 1) := by decide +kernel
theorem dJ0_isLatin1_aae02_7 : decode cJ0_isLatin1_aae02 7 = .ok (.getfield 15, 3) := by decide +kernel
theorem dJ0_isLatin1_aae02_10 : decode cJ0_isLatin1_aae02 10 = .ok (.ifCond .ne 7, 3) := by decide +kernel
theorem dJ0_isLatin1_aae02_13 : decode cJ0_isLatin1_aae02 13 = .ok (.iconst 1, 1) := by decide +kernel
theorem dJ0_isLatin1_aae02_14 : decode cJ0_isLatin1_aae02 14 = .ok (.goto 4, 3) := by decide +kernel
theorem dJ0_isLatin1_aae02_17 : decode cJ0_isLatin1_aae02 17 = .ok (.iconst 0, 1) := by decide +kernel
theorem dJ0_isLatin1_aae02_18 : decode cJ0_isLatin1_aae02 18 = .ok (.ireturn, 1) := by decide +kernel
theorem dJ0_checkIndex_df160_0 : decode cJ0_checkIndex_df160 0 = .ok (.iload_n 0, 1) := by decide +kernel
theorem dJ0_checkIndex_df160_1 : decode cJ0_checkIndex_df160 1 = .ok (.iload_n 1, 1) := by decide +kernel
theorem dJ0_checkIndex_df160_2 : decode cJ0_checkIndex_df160 2 = .ok (.getstatic 1053, 3) := by decide +kernel
theorem dJ0_checkIndex_df160_5 : decode cJ0_checkIndex_df160 5 = .ok (.invokestatic 1059, 3) := by decide +kernel
theorem dJ0_checkIndex_df160_8 : decode cJ0_checkIndex_df160 8 = .ok (.pop, 1) := by decide +kernel
theorem dJ0_checkIndex_df160_9 : decode cJ0_checkIndex_df160 9 = .ok (.return_, 1) := by decide +kernel
theorem dJ1_charAt_3b067_0 : decode cJ1_charAt_3b067 0 = .ok (.iload_n 1, 1) := by decide +kernel
theorem dJ1_charAt_3b067_1 : decode cJ1_charAt_3b067 1 = .ok (.aload_n 0, 1) := by decide +kernel
theorem dJ1_charAt_3b067_2 : decode cJ1_charAt_3b067 2 = .ok (.arraylength, 1) := by decide +kernel
theorem dJ1_charAt_3b067_3 : decode cJ1_charAt_3b067 3 = .ok (.invokestatic 9, 3) := by decide +kernel
theorem dJ1_charAt_3b067_6 : decode cJ1_charAt_3b067 6 = .ok (.aload_n 0, 1) := by decide +kernel
theorem dJ1_charAt_3b067_7 : decode cJ1_charAt_3b067 7 = .ok (.iload_n 1, 1) := by decide +kernel
theorem dJ1_charAt_3b067_8 : decode cJ1_charAt_3b067 8 = .ok (.baload, 1) := by decide +kernel
theorem dJ1_charAt_3b067_9 : decode cJ1_charAt_3b067 9 = .ok (.sipush 255, 3) := by decide +kernel
theorem dJ1_charAt_3b067_12 : decode cJ1_charAt_3b067 12 = .ok (.iand, 1) := by decide +kernel
theorem dJ1_charAt_3b067_13 : decode cJ1_charAt_3b067 13 = .ok (.i2c, 1) := by decide +kernel
theorem dJ1_charAt_3b067_14 : decode cJ1_charAt_3b067 14 = .ok (.ireturn, 1) := by decide +kernel
theorem dJ2_getChar_3b067_0 : decode cJ2_getChar_3b067 0 = .ok (.getstatic 44, 3) := by decide +kernel
theorem dJ2_getChar_3b067_3 : decode cJ2_getChar_3b067 3 = .ok (.ifCond .ne 25, 3) := by decide +kernel
theorem dJ2_getChar_3b067_6 : decode cJ2_getChar_3b067 6 = .ok (.iload_n 1, 1) := by decide +kernel
theorem dJ2_getChar_3b067_7 : decode cJ2_getChar_3b067 7 = .ok (.ifCond .lt 11, 3) := by decide +kernel
theorem dJ2_getChar_3b067_10 : decode cJ2_getChar_3b067 10 = .ok (.iload_n 1, 1) := by decide +kernel
theorem dJ2_getChar_3b067_11 : decode cJ2_getChar_3b067 11 = .ok (.aload_n 0, 1) := by decide +kernel
theorem dJ2_getChar_3b067_12 : decode cJ2_getChar_3b067 12 = .ok (.invokestatic 48, 3) := by decide +kernel
theorem dJ2_getChar_3b067_15 : decode cJ2_getChar_3b067 15 = .ok (.if_icmp .lt 13, 3) := by decide +kernel
theorem dJ2_getChar_3b067_18 : decode cJ2_getChar_3b067 18 = .ok (.new 52, 3) := by decide +kernel
theorem dJ2_getChar_3b067_21 : decode cJ2_getChar_3b067 21 = .ok (.dup, 1) := by decide +kernel
theorem dJ2_getChar_3b067_22 : decode cJ2_getChar_3b067 22 = .ok (.ldc 54, 2) := by decide +kernel
theorem dJ2_getChar_3b067_24 : decode cJ2_getChar_3b067 24 = .ok (.invokespecial 56, 3) := by decide +kernel
theorem dJ2_getChar_3b067_27 : decode cJ2_getChar_3b067 27 = .ok (.athrow, 1) := by decide +kernel
theorem dJ2_getChar_3b067_28 : decode cJ2_getChar_3b067 28 = .ok (.iload_n 1, 1) := by decide +kernel
theorem dJ2_getChar_3b067_29 : decode cJ2_getChar_3b067 29 = .ok (.iconst 1, 1) := by decide +kernel
theorem dJ2_getChar_3b067_30 : decode cJ2_getChar_3b067 30 = .ok (.ishl, 1) := by decide +kernel
theorem dJ2_getChar_3b067_31 : decode cJ2_getChar_3b067 31 = .ok (.istore_n 1, 1) := by decide +kernel
theorem dJ2_getChar_3b067_32 : decode cJ2_getChar_3b067 32 = .ok (.aload_n 0, 1) := by decide +kernel
theorem dJ2_getChar_3b067_33 : decode cJ2_getChar_3b067 33 = .ok (.iload_n 1, 1) := by decide +kernel
theorem dJ2_getChar_3b067_34 : decode cJ2_getChar_3b067 34 = .ok (.iinc 1 1, 3) := by decide +kernel
theorem dJ2_getChar_3b067_37 : decode cJ2_getChar_3b067 37 = .ok (.baload, 1) := by decide +kernel
theorem dJ2_getChar_3b067_38 : decode cJ2_getChar_3b067 38 = .ok (.sipush 255, 3) := by decide +kernel
theorem dJ2_getChar_3b067_41 : decode cJ2_getChar_3b067 41 = .ok (.iand, 1) := by decide +kernel
theorem dJ2_getChar_3b067_42 : decode cJ2_getChar_3b067 42 = .ok (.getstatic 59, 3) := by decide +kernel
theorem dJ2_getChar_3b067_45 : decode cJ2_getChar_3b067 45 = .ok (.ishl, 1) := by decide +kernel
theorem dJ2_getChar_3b067_46 : decode cJ2_getChar_3b067 46 = .ok (.aload_n 0, 1) := by decide +kernel
theorem dJ2_getChar_3b067_47 : decode cJ2_getChar_3b067 47 = .ok (.iload_n 1, 1) := by decide +kernel
theorem dJ2_getChar_3b067_48 : decode cJ2_getChar_3b067 48 = .ok (.baload, 1) := by decide +kernel
theorem dJ2_getChar_3b067_49 : decode cJ2_getChar_3b067 49 = .ok (.sipush 255, 3) := by decide +kernel
theorem dJ2_getChar_3b067_52 : decode cJ2_getChar_3b067 52 = .ok (.iand, 1) := by decide +kernel
theorem dJ2_getChar_3b067_53 : decode cJ2_getChar_3b067 53 = .ok (.getstatic 63, 3) := by decide +kernel
theorem dJ2_getChar_3b067_56 : decode cJ2_getChar_3b067 56 = .ok (.ishl, 1) := by decide +kernel
theorem dJ2_getChar_3b067_57 : decode cJ2_getChar_3b067 57 = .ok (.ior, 1) := by decide +kernel
theorem dJ2_getChar_3b067_58 : decode cJ2_getChar_3b067 58 = .ok (.i2c, 1) := by decide +kernel
theorem dJ2_getChar_3b067_59 : decode cJ2_getChar_3b067 59 = .ok (.ireturn, 1) := by decide +kernel
theorem dJ2_length_9d52b_0 : decode cJ2_length_9d52b 0 = .ok (.aload_n 0, 1) := by decide +kernel
theorem dJ2_length_9d52b_1 : decode cJ2_length_9d52b 1 = .ok (.arraylength, 1) := by decide +kernel
theorem dJ2_length_9d52b_2 : decode cJ2_length_9d52b 2 = .ok (.iconst 1, 1) := by decide +kernel
theorem dJ2_length_9d52b_3 : decode cJ2_length_9d52b 3 = .ok (.ishr, 1) := by decide +kernel
theorem dJ2_length_9d52b_4 : decode cJ2_length_9d52b 4 = .ok (.ireturn, 1) := by decide +kernel
theorem dJ2_charAt_3b067_0 : decode cJ2_charAt_3b067 0 = .ok (.iload_n 1, 1) := by decide +kernel
theorem dJ2_charAt_3b067_1 : decode cJ2_charAt_3b067 1 = .ok (.aload_n 0, 1) := by decide +kernel
theorem dJ2_charAt_3b067_2 : decode cJ2_charAt_3b067 2 = .ok (.invokestatic 67, 3) := by decide +kernel
theorem dJ2_charAt_3b067_5 : decode cJ2_charAt_3b067 5 = .ok (.aload_n 0, 1) := by decide +kernel
theorem dJ2_charAt_3b067_6 : decode cJ2_charAt_3b067 6 = .ok (.iload_n 1, 1) := by decide +kernel
theorem dJ2_charAt_3b067_7 : decode cJ2_charAt_3b067 7 = .ok (.invokestatic 71, 3) := by decide +kernel
theorem dJ2_charAt_3b067_10 : decode cJ2_charAt_3b067 10 = .ok (.ireturn, 1) := by decide +kernel
theorem dJ2_checkIndex_2214a_0 : decode cJ2_checkIndex_2214a 0 = .ok (.iload_n 0, 1) := by decide +kernel
theorem dJ2_checkIndex_2214a_1 : decode cJ2_checkIndex_2214a 1 = .ok (.aload_n 1, 1) := by decide +kernel
theorem dJ2_checkIndex_2214a_2 : decode cJ2_checkIndex_2214a 2 = .ok (.invokestatic 48, 3) := by decide +kernel
theorem dJ2_checkIndex_2214a_5 : decode cJ2_checkIndex_2214a 5 = .ok (.invokestatic 414, 3) := by decide +kernel
theorem dJ2_checkIndex_2214a_8 : decode cJ2_checkIndex_2214a 8 = .ok (.return_, 1) := by decide +kernel
theorem dJ3_checkIndex_8e157_0 : decode cJ3_checkIndex_8e157 0 = .ok (.iload_n 0, 1) := by decide +kernel
theorem dJ3_checkIndex_8e157_1 : decode cJ3_checkIndex_8e157 1 = .ok (.ifCond .lt 8, 3) := by decide +kernel
theorem dJ3_checkIndex_8e157_4 : decode cJ3_checkIndex_8e157 4 = .ok (.iload_n 0, 1) := by decide +kernel
theorem dJ3_checkIndex_8e157_5 : decode cJ3_checkIndex_8e157 5 = .ok (.iload_n 1, 1) := by decide +kernel
theorem dJ3_checkIndex_8e157_6 : decode cJ3_checkIndex_8e157 6 = .ok (.if_icmp .lt 10, 3) := by decide +kernel
theorem dJ3_checkIndex_8e157_9 : decode cJ3_checkIndex_8e157 9 = .ok (.aload_n 2, 1) := by decide +kernel
theorem dJ3_checkIndex_8e157_10 : decode cJ3_checkIndex_8e157 10 = .ok (.iload_n 0, 1) := by decide +kernel
theorem dJ3_checkIndex_8e157_11 : decode cJ3_checkIndex_8e157 11 = .ok (.iload_n 1, 1) := by decide +kernel
theorem dJ3_checkIndex_8e157_12 : decode cJ3_checkIndex_8e157 12 = .ok (.invokestatic 95, 3) := by decide +kernel
theorem dJ3_checkIndex_8e157_15 : decode cJ3_checkIndex_8e157 15 = .ok (.athrow, 1) := by decide +kernel
theorem dJ3_checkIndex_8e157_16 : decode cJ3_checkIndex_8e157 16 = .ok (.iload_n 0, 1) := by decide +kernel
theorem dJ3_checkIndex_8e157_17 : decode cJ3_checkIndex_8e157 17 = .ok (.ireturn, 1) := by decide +kernel
theorem dL_hut_0 : decode cL_hut 0 = .ok (.aload_n 2, 1) := by decide +kernel
theorem dL_hut_1 : decode cL_hut 1 = .ok (.iconst 0, 1) := by decide +kernel
theorem dL_hut_2 : decode cL_hut 2 = .ok (.aload_n 0, 1) := by decide +kernel
theorem dL_hut_3 : decode cL_hut 3 = .ok (.iload_n 1, 1) := by decide +kernel
theorem dL_hut_4 : decode cL_hut 4 = .ok (.invokevirtual 7, 3) := by decide +kernel
theorem dL_hut_7 : decode cL_hut 7 = .ok (.i2l, 1) := by decide +kernel
theorem dL_hut_8 : decode cL_hut 8 = .ok (.lastore, 1) := by decide +kernel
theorem dL_hut_9 : decode cL_hut 9 = .ok (.goto 6, 3) := by decide +kernel
theorem dL_hut_12 : decode cL_hut 12 = .ok (.astore_n 3, 1) := by decide +kernel
theorem dL_hut_13 : decode cL_hut 13 = .ok (.iconst 1, 1) := by decide +kernel
theorem dL_hut_14 : decode cL_hut 14 = .ok (.ireturn, 1) := by decide +kernel
theorem dL_hut_15 : decode cL_hut 15 = .ok (.iconst 0, 1) := by decide +kernel
theorem dL_hut_16 : decode cL_hut 16 = .ok (.ireturn, 1) := by decide +kernel
theorem dL_work_0 : decode cL_work 0 = .ok (.aload_n 2, 1) := by decide +kernel
theorem dL_work_1 : decode cL_work 1 = .ok (.iconst 0, 1) := by decide +kernel
theorem dL_work_2 : decode cL_work 2 = .ok (.aload_n 0, 1) := by decide +kernel
theorem dL_work_3 : decode cL_work 3 = .ok (.iload_n 1, 1) := by decide +kernel
theorem dL_work_4 : decode cL_work 4 = .ok (.invokevirtual 18, 3) := by decide +kernel
theorem dL_work_7 : decode cL_work 7 = .ok (.i2l, 1) := by decide +kernel
theorem dL_work_8 : decode cL_work 8 = .ok (.lastore, 1) := by decide +kernel
theorem dL_work_9 : decode cL_work 9 = .ok (.goto 6, 3) := by decide +kernel
theorem dL_work_12 : decode cL_work 12 = .ok (.astore_n 3, 1) := by decide +kernel
theorem dL_work_13 : decode cL_work 13 = .ok (.iconst 1, 1) := by decide +kernel
theorem dL_work_14 : decode cL_work 14 = .ok (.ireturn, 1) := by decide +kernel
theorem dL_work_15 : decode cL_work 15 = .ok (.iconst 0, 1) := by decide +kernel
theorem dL_work_16 : decode cL_work 16 = .ok (.ireturn, 1) := by decide +kernel
theorem dL_chain_0 : decode cL_chain 0 = .ok (.aload_n 2, 1) := by decide +kernel
theorem dL_chain_1 : decode cL_chain 1 = .ok (.iconst 0, 1) := by decide +kernel
theorem dL_chain_2 : decode cL_chain 2 = .ok (.aload_n 0, 1) := by decide +kernel
theorem dL_chain_3 : decode cL_chain 3 = .ok (.iload_n 1, 1) := by decide +kernel
theorem dL_chain_4 : decode cL_chain 4 = .ok (.invokevirtual 21, 3) := by decide +kernel
theorem dL_chain_7 : decode cL_chain 7 = .ok (.i2l, 1) := by decide +kernel
theorem dL_chain_8 : decode cL_chain 8 = .ok (.lastore, 1) := by decide +kernel
theorem dL_chain_9 : decode cL_chain 9 = .ok (.goto 6, 3) := by decide +kernel
theorem dL_chain_12 : decode cL_chain 12 = .ok (.astore_n 3, 1) := by decide +kernel
theorem dL_chain_13 : decode cL_chain 13 = .ok (.iconst 1, 1) := by decide +kernel
theorem dL_chain_14 : decode cL_chain 14 = .ok (.ireturn, 1) := by decide +kernel
theorem dL_chain_15 : decode cL_chain 15 = .ok (.iconst 0, 1) := by decide +kernel
theorem dL_chain_16 : decode cL_chain 16 = .ok (.ireturn, 1) := by decide +kernel
theorem dL_book_0 : decode cL_book 0 = .ok (.aload_n 2, 1) := by decide +kernel
theorem dL_book_1 : decode cL_book 1 = .ok (.iconst 0, 1) := by decide +kernel
theorem dL_book_2 : decode cL_book 2 = .ok (.aload_n 0, 1) := by decide +kernel
theorem dL_book_3 : decode cL_book 3 = .ok (.iload_n 1, 1) := by decide +kernel
theorem dL_book_4 : decode cL_book 4 = .ok (.invokevirtual 24, 3) := by decide +kernel
theorem dL_book_7 : decode cL_book 7 = .ok (.i2l, 1) := by decide +kernel
theorem dL_book_8 : decode cL_book 8 = .ok (.lastore, 1) := by decide +kernel
theorem dL_book_9 : decode cL_book 9 = .ok (.goto 6, 3) := by decide +kernel
theorem dL_book_12 : decode cL_book 12 = .ok (.astore_n 3, 1) := by decide +kernel
theorem dL_book_13 : decode cL_book 13 = .ok (.iconst 1, 1) := by decide +kernel
theorem dL_book_14 : decode cL_book 14 = .ok (.ireturn, 1) := by decide +kernel
theorem dL_book_15 : decode cL_book 15 = .ok (.iconst 0, 1) := by decide +kernel
theorem dL_book_16 : decode cL_book 16 = .ok (.ireturn, 1) := by decide +kernel
theorem dL_told_0 : decode cL_told 0 = .ok (.aload_n 2, 1) := by decide +kernel
theorem dL_told_1 : decode cL_told 1 = .ok (.iconst 0, 1) := by decide +kernel
theorem dL_told_2 : decode cL_told 2 = .ok (.aload_n 0, 1) := by decide +kernel
theorem dL_told_3 : decode cL_told 3 = .ok (.iload_n 1, 1) := by decide +kernel
theorem dL_told_4 : decode cL_told 4 = .ok (.invokevirtual 27, 3) := by decide +kernel
theorem dL_told_7 : decode cL_told 7 = .ok (.i2l, 1) := by decide +kernel
theorem dL_told_8 : decode cL_told 8 = .ok (.lastore, 1) := by decide +kernel
theorem dL_told_9 : decode cL_told 9 = .ok (.goto 6, 3) := by decide +kernel
theorem dL_told_12 : decode cL_told 12 = .ok (.astore_n 3, 1) := by decide +kernel
theorem dL_told_13 : decode cL_told 13 = .ok (.iconst 1, 1) := by decide +kernel
theorem dL_told_14 : decode cL_told 14 = .ok (.ireturn, 1) := by decide +kernel
theorem dL_told_15 : decode cL_told 15 = .ok (.iconst 0, 1) := by decide +kernel
theorem dL_told_16 : decode cL_told 16 = .ok (.ireturn, 1) := by decide +kernel
theorem dL_pen_0 : decode cL_pen 0 = .ok (.aload_n 3, 1) := by decide +kernel
theorem dL_pen_1 : decode cL_pen 1 = .ok (.iconst 0, 1) := by decide +kernel
theorem dL_pen_2 : decode cL_pen 2 = .ok (.aload_n 0, 1) := by decide +kernel
theorem dL_pen_3 : decode cL_pen 3 = .ok (.iload_n 1, 1) := by decide +kernel
theorem dL_pen_4 : decode cL_pen 4 = .ok (.iload_n 2, 1) := by decide +kernel
theorem dL_pen_5 : decode cL_pen 5 = .ok (.invokevirtual 30, 3) := by decide +kernel
theorem dL_pen_8 : decode cL_pen 8 = .ok (.i2l, 1) := by decide +kernel
theorem dL_pen_9 : decode cL_pen 9 = .ok (.lastore, 1) := by decide +kernel
theorem dL_pen_10 : decode cL_pen 10 = .ok (.goto 11, 3) := by decide +kernel
theorem dL_pen_13 : decode cL_pen 13 = .ok (.astore 4, 2) := by decide +kernel
theorem dL_pen_15 : decode cL_pen 15 = .ok (.iconst 1, 1) := by decide +kernel
theorem dL_pen_16 : decode cL_pen 16 = .ok (.ireturn, 1) := by decide +kernel
theorem dL_pen_17 : decode cL_pen 17 = .ok (.astore 4, 2) := by decide +kernel
theorem dL_pen_19 : decode cL_pen 19 = .ok (.iconst 2, 1) := by decide +kernel
theorem dL_pen_20 : decode cL_pen 20 = .ok (.ireturn, 1) := by decide +kernel
theorem dL_pen_21 : decode cL_pen 21 = .ok (.iconst 0, 1) := by decide +kernel
theorem dL_pen_22 : decode cL_pen 22 = .ok (.ireturn, 1) := by decide +kernel
theorem dL_wire_0 : decode cL_wire 0 = .ok (.aload_n 3, 1) := by decide +kernel
theorem dL_wire_1 : decode cL_wire 1 = .ok (.iconst 0, 1) := by decide +kernel
theorem dL_wire_2 : decode cL_wire 2 = .ok (.aload_n 0, 1) := by decide +kernel
theorem dL_wire_3 : decode cL_wire 3 = .ok (.iload_n 1, 1) := by decide +kernel
theorem dL_wire_4 : decode cL_wire 4 = .ok (.iload_n 2, 1) := by decide +kernel
theorem dL_wire_5 : decode cL_wire 5 = .ok (.invokevirtual 36, 3) := by decide +kernel
theorem dL_wire_8 : decode cL_wire 8 = .ok (.i2l, 1) := by decide +kernel
theorem dL_wire_9 : decode cL_wire 9 = .ok (.lastore, 1) := by decide +kernel
theorem dL_wire_10 : decode cL_wire 10 = .ok (.goto 11, 3) := by decide +kernel
theorem dL_wire_13 : decode cL_wire 13 = .ok (.astore 4, 2) := by decide +kernel
theorem dL_wire_15 : decode cL_wire 15 = .ok (.iconst 1, 1) := by decide +kernel
theorem dL_wire_16 : decode cL_wire 16 = .ok (.ireturn, 1) := by decide +kernel
theorem dL_wire_17 : decode cL_wire 17 = .ok (.astore 4, 2) := by decide +kernel
theorem dL_wire_19 : decode cL_wire 19 = .ok (.iconst 2, 1) := by decide +kernel
theorem dL_wire_20 : decode cL_wire 20 = .ok (.ireturn, 1) := by decide +kernel
theorem dL_wire_21 : decode cL_wire 21 = .ok (.iconst 0, 1) := by decide +kernel
theorem dL_wire_22 : decode cL_wire 22 = .ok (.ireturn, 1) := by decide +kernel
theorem dL_record_0 : decode cL_record 0 = .ok (.aload_n 3, 1) := by decide +kernel
theorem dL_record_1 : decode cL_record 1 = .ok (.iconst 0, 1) := by decide +kernel
theorem dL_record_2 : decode cL_record 2 = .ok (.aload_n 0, 1) := by decide +kernel
theorem dL_record_3 : decode cL_record 3 = .ok (.iload_n 1, 1) := by decide +kernel
theorem dL_record_4 : decode cL_record 4 = .ok (.iload_n 2, 1) := by decide +kernel
theorem dL_record_5 : decode cL_record 5 = .ok (.invokevirtual 39, 3) := by decide +kernel
theorem dL_record_8 : decode cL_record 8 = .ok (.i2l, 1) := by decide +kernel
theorem dL_record_9 : decode cL_record 9 = .ok (.lastore, 1) := by decide +kernel
theorem dL_record_10 : decode cL_record 10 = .ok (.goto 11, 3) := by decide +kernel
theorem dL_record_13 : decode cL_record 13 = .ok (.astore 4, 2) := by decide +kernel
theorem dL_record_15 : decode cL_record 15 = .ok (.iconst 1, 1) := by decide +kernel
theorem dL_record_16 : decode cL_record 16 = .ok (.ireturn, 1) := by decide +kernel
theorem dL_record_17 : decode cL_record 17 = .ok (.astore 4, 2) := by decide +kernel
theorem dL_record_19 : decode cL_record 19 = .ok (.iconst 2, 1) := by decide +kernel
theorem dL_record_20 : decode cL_record 20 = .ok (.ireturn, 1) := by decide +kernel
theorem dL_record_21 : decode cL_record 21 = .ok (.iconst 0, 1) := by decide +kernel
theorem dL_record_22 : decode cL_record 22 = .ok (.ireturn, 1) := by decide +kernel
theorem dL_out_0 : decode cL_out 0 = .ok (.aload_n 3, 1) := by decide +kernel
theorem dL_out_1 : decode cL_out 1 = .ok (.iconst 0, 1) := by decide +kernel
theorem dL_out_2 : decode cL_out 2 = .ok (.aload_n 0, 1) := by decide +kernel
theorem dL_out_3 : decode cL_out 3 = .ok (.iload_n 1, 1) := by decide +kernel
theorem dL_out_4 : decode cL_out 4 = .ok (.iload_n 2, 1) := by decide +kernel
theorem dL_out_5 : decode cL_out 5 = .ok (.invokevirtual 44, 3) := by decide +kernel
theorem dL_out_8 : decode cL_out 8 = .ok (.i2l, 1) := by decide +kernel
theorem dL_out_9 : decode cL_out 9 = .ok (.lastore, 1) := by decide +kernel
theorem dL_out_10 : decode cL_out 10 = .ok (.goto 11, 3) := by decide +kernel
theorem dL_out_13 : decode cL_out 13 = .ok (.astore 4, 2) := by decide +kernel
theorem dL_out_15 : decode cL_out 15 = .ok (.iconst 1, 1) := by decide +kernel
theorem dL_out_16 : decode cL_out 16 = .ok (.ireturn, 1) := by decide +kernel
theorem dL_out_17 : decode cL_out 17 = .ok (.astore 4, 2) := by decide +kernel
theorem dL_out_19 : decode cL_out 19 = .ok (.iconst 2, 1) := by decide +kernel
theorem dL_out_20 : decode cL_out 20 = .ok (.ireturn, 1) := by decide +kernel
theorem dL_out_21 : decode cL_out 21 = .ok (.iconst 0, 1) := by decide +kernel
theorem dL_out_22 : decode cL_out 22 = .ok (.ireturn, 1) := by decide +kernel
theorem dL_level_0 : decode cL_level 0 = .ok (.aload_n 3, 1) := by decide +kernel
theorem dL_level_1 : decode cL_level 1 = .ok (.iconst 0, 1) := by decide +kernel
theorem dL_level_2 : decode cL_level 2 = .ok (.aload_n 0, 1) := by decide +kernel
theorem dL_level_3 : decode cL_level 3 = .ok (.iload_n 1, 1) := by decide +kernel
theorem dL_level_4 : decode cL_level 4 = .ok (.iload_n 2, 1) := by decide +kernel
theorem dL_level_5 : decode cL_level 5 = .ok (.invokevirtual 49, 3) := by decide +kernel
theorem dL_level_8 : decode cL_level 8 = .ok (.i2l, 1) := by decide +kernel
theorem dL_level_9 : decode cL_level 9 = .ok (.lastore, 1) := by decide +kernel
theorem dL_level_10 : decode cL_level 10 = .ok (.goto 7, 3) := by decide +kernel
theorem dL_level_13 : decode cL_level 13 = .ok (.astore 4, 2) := by decide +kernel
theorem dL_level_15 : decode cL_level 15 = .ok (.iconst 1, 1) := by decide +kernel
theorem dL_level_16 : decode cL_level 16 = .ok (.ireturn, 1) := by decide +kernel
theorem dL_level_17 : decode cL_level 17 = .ok (.iconst 0, 1) := by decide +kernel
theorem dL_level_18 : decode cL_level 18 = .ok (.ireturn, 1) := by decide +kernel
theorem dL_would_0 : decode cL_would 0 = .ok (.aload 9, 2) := by decide +kernel
theorem dL_would_2 : decode cL_would 2 = .ok (.iconst 0, 1) := by decide +kernel
theorem dL_would_3 : decode cL_would 3 = .ok (.aload_n 0, 1) := by decide +kernel
theorem dL_would_4 : decode cL_would 4 = .ok (.iload_n 1, 1) := by decide +kernel
theorem dL_would_5 : decode cL_would 5 = .ok (.iload_n 2, 1) := by decide +kernel
theorem dL_would_6 : decode cL_would 6 = .ok (.iload_n 3, 1) := by decide +kernel
theorem dL_would_7 : decode cL_would 7 = .ok (.iload 4, 2) := by decide +kernel
theorem dL_would_9 : decode cL_would 9 = .ok (.iload 5, 2) := by decide +kernel
theorem dL_would_11 : decode cL_would 11 = .ok (.iload 6, 2) := by decide +kernel
theorem dL_would_13 : decode cL_would 13 = .ok (.iload 7, 2) := by decide +kernel
theorem dL_would_15 : decode cL_would 15 = .ok (.iload 8, 2) := by decide +kernel
theorem dL_would_17 : decode cL_would 17 = .ok (.invokevirtual 52, 3) := by decide +kernel
theorem dL_would_20 : decode cL_would 20 = .ok (.i2l, 1) := by decide +kernel
theorem dL_would_21 : decode cL_would 21 = .ok (.lastore, 1) := by decide +kernel
theorem dL_would_22 : decode cL_would 22 = .ok (.goto 7, 3) := by decide +kernel
theorem dL_would_25 : decode cL_would 25 = .ok (.astore 10, 2) := by decide +kernel
theorem dL_would_27 : decode cL_would 27 = .ok (.iconst 1, 1) := by decide +kernel
theorem dL_would_28 : decode cL_would 28 = .ok (.ireturn, 1) := by decide +kernel
theorem dL_would_29 : decode cL_would 29 = .ok (.iconst 0, 1) := by decide +kernel
theorem dL_would_30 : decode cL_would 30 = .ok (.ireturn, 1) := by decide +kernel
theorem dL_total_0 : decode cL_total 0 = .ok (.aload_n 2, 1) := by decide +kernel
theorem dL_total_1 : decode cL_total 1 = .ok (.iconst 0, 1) := by decide +kernel
theorem dL_total_2 : decode cL_total 2 = .ok (.aload_n 0, 1) := by decide +kernel
theorem dL_total_3 : decode cL_total 3 = .ok (.iload_n 1, 1) := by decide +kernel
theorem dL_total_4 : decode cL_total 4 = .ok (.invokevirtual 56, 3) := by decide +kernel
theorem dL_total_7 : decode cL_total 7 = .ok (.i2l, 1) := by decide +kernel
theorem dL_total_8 : decode cL_total 8 = .ok (.lastore, 1) := by decide +kernel
theorem dL_total_9 : decode cL_total 9 = .ok (.goto 9, 3) := by decide +kernel
theorem dL_total_12 : decode cL_total 12 = .ok (.astore_n 3, 1) := by decide +kernel
theorem dL_total_13 : decode cL_total 13 = .ok (.iconst 1, 1) := by decide +kernel
theorem dL_total_14 : decode cL_total 14 = .ok (.ireturn, 1) := by decide +kernel
theorem dL_total_15 : decode cL_total 15 = .ok (.astore_n 3, 1) := by decide +kernel
theorem dL_total_16 : decode cL_total 16 = .ok (.iconst 2, 1) := by decide +kernel
theorem dL_total_17 : decode cL_total 17 = .ok (.ireturn, 1) := by decide +kernel
theorem dL_total_18 : decode cL_total 18 = .ok (.iconst 0, 1) := by decide +kernel
theorem dL_total_19 : decode cL_total 19 = .ok (.ireturn, 1) := by decide +kernel
theorem dL_strange_0 : decode cL_strange 0 = .ok (.aload_n 3, 1) := by decide +kernel
theorem dL_strange_1 : decode cL_strange 1 = .ok (.iconst 0, 1) := by decide +kernel
theorem dL_strange_2 : decode cL_strange 2 = .ok (.aload_n 0, 1) := by decide +kernel
theorem dL_strange_3 : decode cL_strange 3 = .ok (.iload_n 1, 1) := by decide +kernel
theorem dL_strange_4 : decode cL_strange 4 = .ok (.iload_n 2, 1) := by decide +kernel
theorem dL_strange_5 : decode cL_strange 5 = .ok (.invokevirtual 59, 3) := by decide +kernel
theorem dL_strange_8 : decode cL_strange 8 = .ok (.i2l, 1) := by decide +kernel
theorem dL_strange_9 : decode cL_strange 9 = .ok (.lastore, 1) := by decide +kernel
theorem dL_strange_10 : decode cL_strange 10 = .ok (.goto 11, 3) := by decide +kernel
theorem dL_strange_13 : decode cL_strange 13 = .ok (.astore 4, 2) := by decide +kernel
theorem dL_strange_15 : decode cL_strange 15 = .ok (.iconst 1, 1) := by decide +kernel
theorem dL_strange_16 : decode cL_strange 16 = .ok (.ireturn, 1) := by decide +kernel
theorem dL_strange_17 : decode cL_strange 17 = .ok (.astore 4, 2) := by decide +kernel
theorem dL_strange_19 : decode cL_strange 19 = .ok (.iconst 2, 1) := by decide +kernel
theorem dL_strange_20 : decode cL_strange 20 = .ok (.ireturn, 1) := by decide +kernel
theorem dL_strange_21 : decode cL_strange 21 = .ok (.iconst 0, 1) := by decide +kernel
theorem dL_strange_22 : decode cL_strange 22 = .ok (.ireturn, 1) := by decide +kernel
theorem dL_extreme_0 : decode cL_extreme 0 = .ok (.aload_n 3, 1) := by decide +kernel
theorem dL_extreme_1 : decode cL_extreme 1 = .ok (.iconst 0, 1) := by decide +kernel
theorem dL_extreme_2 : decode cL_extreme 2 = .ok (.aload_n 0, 1) := by decide +kernel
theorem dL_extreme_3 : decode cL_extreme 3 = .ok (.iload_n 1, 1) := by decide +kernel
theorem dL_extreme_4 : decode cL_extreme 4 = .ok (.iload_n 2, 1) := by decide +kernel
theorem dL_extreme_5 : decode cL_extreme 5 = .ok (.invokevirtual 62, 3) := by decide +kernel
theorem dL_extreme_8 : decode cL_extreme 8 = .ok (.i2l, 1) := by decide +kernel
theorem dL_extreme_9 : decode cL_extreme 9 = .ok (.lastore, 1) := by decide +kernel
theorem dL_extreme_10 : decode cL_extreme 10 = .ok (.goto 11, 3) := by decide +kernel
theorem dL_extreme_13 : decode cL_extreme 13 = .ok (.astore 4, 2) := by decide +kernel
theorem dL_extreme_15 : decode cL_extreme 15 = .ok (.iconst 1, 1) := by decide +kernel
theorem dL_extreme_16 : decode cL_extreme 16 = .ok (.ireturn, 1) := by decide +kernel
theorem dL_extreme_17 : decode cL_extreme 17 = .ok (.astore 4, 2) := by decide +kernel
theorem dL_extreme_19 : decode cL_extreme 19 = .ok (.iconst 2, 1) := by decide +kernel
theorem dL_extreme_20 : decode cL_extreme 20 = .ok (.ireturn, 1) := by decide +kernel
theorem dL_extreme_21 : decode cL_extreme 21 = .ok (.iconst 0, 1) := by decide +kernel
theorem dL_extreme_22 : decode cL_extreme 22 = .ok (.ireturn, 1) := by decide +kernel
theorem dL_through_0 : decode cL_through 0 = .ok (.aload_n 2, 1) := by decide +kernel
theorem dL_through_1 : decode cL_through 1 = .ok (.iconst 0, 1) := by decide +kernel
theorem dL_through_2 : decode cL_through 2 = .ok (.aload_n 0, 1) := by decide +kernel
theorem dL_through_3 : decode cL_through 3 = .ok (.iload_n 1, 1) := by decide +kernel
theorem dL_through_4 : decode cL_through 4 = .ok (.invokevirtual 65, 3) := by decide +kernel
theorem dL_through_7 : decode cL_through 7 = .ok (.i2l, 1) := by decide +kernel
theorem dL_through_8 : decode cL_through 8 = .ok (.lastore, 1) := by decide +kernel
theorem dL_through_9 : decode cL_through 9 = .ok (.goto 6, 3) := by decide +kernel
theorem dL_through_12 : decode cL_through 12 = .ok (.astore_n 3, 1) := by decide +kernel
theorem dL_through_13 : decode cL_through 13 = .ok (.iconst 1, 1) := by decide +kernel
theorem dL_through_14 : decode cL_through 14 = .ok (.ireturn, 1) := by decide +kernel
theorem dL_through_15 : decode cL_through 15 = .ok (.iconst 0, 1) := by decide +kernel
theorem dL_through_16 : decode cL_through 16 = .ok (.ireturn, 1) := by decide +kernel
theorem dL_kept_0 : decode cL_kept 0 = .ok (.aload_n 3, 1) := by decide +kernel
theorem dL_kept_1 : decode cL_kept 1 = .ok (.iconst 0, 1) := by decide +kernel
theorem dL_kept_2 : decode cL_kept 2 = .ok (.aload_n 0, 1) := by decide +kernel
theorem dL_kept_3 : decode cL_kept 3 = .ok (.iload_n 1, 1) := by decide +kernel
theorem dL_kept_4 : decode cL_kept 4 = .ok (.iload_n 2, 1) := by decide +kernel
theorem dL_kept_5 : decode cL_kept 5 = .ok (.invokevirtual 68, 3) := by decide +kernel
theorem dL_kept_8 : decode cL_kept 8 = .ok (.i2l, 1) := by decide +kernel
theorem dL_kept_9 : decode cL_kept 9 = .ok (.lastore, 1) := by decide +kernel
theorem dL_kept_10 : decode cL_kept 10 = .ok (.goto 7, 3) := by decide +kernel
theorem dL_kept_13 : decode cL_kept 13 = .ok (.astore 4, 2) := by decide +kernel
theorem dL_kept_15 : decode cL_kept 15 = .ok (.iconst 1, 1) := by decide +kernel
theorem dL_kept_16 : decode cL_kept 16 = .ok (.ireturn, 1) := by decide +kernel
theorem dL_kept_17 : decode cL_kept 17 = .ok (.iconst 0, 1) := by decide +kernel
theorem dL_kept_18 : decode cL_kept 18 = .ok (.ireturn, 1) := by decide +kernel
theorem dL_gives_0 : decode cL_gives 0 = .ok (.aload 4, 2) := by decide +kernel
theorem dL_gives_2 : decode cL_gives 2 = .ok (.iconst 0, 1) := by decide +kernel
theorem dL_gives_3 : decode cL_gives 3 = .ok (.aload_n 0, 1) := by decide +kernel
theorem dL_gives_4 : decode cL_gives 4 = .ok (.iload_n 1, 1) := by decide +kernel
theorem dL_gives_5 : decode cL_gives 5 = .ok (.iload_n 2, 1) := by decide +kernel
theorem dL_gives_6 : decode cL_gives 6 = .ok (.iload_n 3, 1) := by decide +kernel
theorem dL_gives_7 : decode cL_gives 7 = .ok (.invokevirtual 71, 3) := by decide +kernel
theorem dL_gives_10 : decode cL_gives 10 = .ok (.i2l, 1) := by decide +kernel
theorem dL_gives_11 : decode cL_gives 11 = .ok (.lastore, 1) := by decide +kernel
theorem dL_gives_12 : decode cL_gives 12 = .ok (.goto 7, 3) := by decide +kernel
theorem dL_gives_15 : decode cL_gives 15 = .ok (.astore 5, 2) := by decide +kernel
theorem dL_gives_17 : decode cL_gives 17 = .ok (.iconst 1, 1) := by decide +kernel
theorem dL_gives_18 : decode cL_gives 18 = .ok (.ireturn, 1) := by decide +kernel
theorem dL_gives_19 : decode cL_gives 19 = .ok (.iconst 0, 1) := by decide +kernel
theorem dL_gives_20 : decode cL_gives 20 = .ok (.ireturn, 1) := by decide +kernel
theorem dL_worst_0 : decode cL_worst 0 = .ok (.aload 4, 2) := by decide +kernel
theorem dL_worst_2 : decode cL_worst 2 = .ok (.iconst 0, 1) := by decide +kernel
theorem dL_worst_3 : decode cL_worst 3 = .ok (.aload_n 0, 1) := by decide +kernel
theorem dL_worst_4 : decode cL_worst 4 = .ok (.iload_n 1, 1) := by decide +kernel
theorem dL_worst_5 : decode cL_worst 5 = .ok (.iload_n 2, 1) := by decide +kernel
theorem dL_worst_6 : decode cL_worst 6 = .ok (.iload_n 3, 1) := by decide +kernel
theorem dL_worst_7 : decode cL_worst 7 = .ok (.invokevirtual 75, 3) := by decide +kernel
theorem dL_worst_10 : decode cL_worst 10 = .ok (.i2l, 1) := by decide +kernel
theorem dL_worst_11 : decode cL_worst 11 = .ok (.lastore, 1) := by decide +kernel
theorem dL_worst_12 : decode cL_worst 12 = .ok (.goto 7, 3) := by decide +kernel
theorem dL_worst_15 : decode cL_worst 15 = .ok (.astore 5, 2) := by decide +kernel
theorem dL_worst_17 : decode cL_worst 17 = .ok (.iconst 1, 1) := by decide +kernel
theorem dL_worst_18 : decode cL_worst 18 = .ok (.ireturn, 1) := by decide +kernel
theorem dL_worst_19 : decode cL_worst 19 = .ok (.iconst 0, 1) := by decide +kernel
theorem dL_worst_20 : decode cL_worst 20 = .ok (.ireturn, 1) := by decide +kernel
theorem dL_best_0 : decode cL_best 0 = .ok (.aload 5, 2) := by decide +kernel
theorem dL_best_2 : decode cL_best 2 = .ok (.iconst 0, 1) := by decide +kernel
theorem dL_best_3 : decode cL_best 3 = .ok (.aload_n 0, 1) := by decide +kernel
theorem dL_best_4 : decode cL_best 4 = .ok (.iload_n 1, 1) := by decide +kernel
theorem dL_best_5 : decode cL_best 5 = .ok (.iload_n 2, 1) := by decide +kernel
theorem dL_best_6 : decode cL_best 6 = .ok (.iload_n 3, 1) := by decide +kernel
theorem dL_best_7 : decode cL_best 7 = .ok (.iload 4, 2) := by decide +kernel
theorem dL_best_9 : decode cL_best 9 = .ok (.invokevirtual 78, 3) := by decide +kernel
theorem dL_best_12 : decode cL_best 12 = .ok (.i2l, 1) := by decide +kernel
theorem dL_best_13 : decode cL_best 13 = .ok (.lastore, 1) := by decide +kernel
theorem dL_best_14 : decode cL_best 14 = .ok (.goto 11, 3) := by decide +kernel
theorem dL_best_17 : decode cL_best 17 = .ok (.astore 6, 2) := by decide +kernel
theorem dL_best_19 : decode cL_best 19 = .ok (.iconst 1, 1) := by decide +kernel
theorem dL_best_20 : decode cL_best 20 = .ok (.ireturn, 1) := by decide +kernel
theorem dL_best_21 : decode cL_best 21 = .ok (.astore 6, 2) := by decide +kernel
theorem dL_best_23 : decode cL_best 23 = .ok (.iconst 2, 1) := by decide +kernel
theorem dL_best_24 : decode cL_best 24 = .ok (.ireturn, 1) := by decide +kernel
theorem dL_best_25 : decode cL_best 25 = .ok (.iconst 0, 1) := by decide +kernel
theorem dL_best_26 : decode cL_best 26 = .ok (.ireturn, 1) := by decide +kernel
theorem dL_hop_0 : decode cL_hop 0 = .ok (.aload 5, 2) := by decide +kernel
theorem dL_hop_2 : decode cL_hop 2 = .ok (.iconst 0, 1) := by decide +kernel
theorem dL_hop_3 : decode cL_hop 3 = .ok (.aload_n 0, 1) := by decide +kernel
theorem dL_hop_4 : decode cL_hop 4 = .ok (.iload_n 1, 1) := by decide +kernel
theorem dL_hop_5 : decode cL_hop 5 = .ok (.iload_n 2, 1) := by decide +kernel
theorem dL_hop_6 : decode cL_hop 6 = .ok (.iload_n 3, 1) := by decide +kernel
theorem dL_hop_7 : decode cL_hop 7 = .ok (.iload 4, 2) := by decide +kernel
theorem dL_hop_9 : decode cL_hop 9 = .ok (.invokevirtual 82, 3) := by decide +kernel
theorem dL_hop_12 : decode cL_hop 12 = .ok (.i2l, 1) := by decide +kernel
theorem dL_hop_13 : decode cL_hop 13 = .ok (.lastore, 1) := by decide +kernel
theorem dL_hop_14 : decode cL_hop 14 = .ok (.goto 11, 3) := by decide +kernel
theorem dL_hop_17 : decode cL_hop 17 = .ok (.astore 6, 2) := by decide +kernel
theorem dL_hop_19 : decode cL_hop 19 = .ok (.iconst 1, 1) := by decide +kernel
theorem dL_hop_20 : decode cL_hop 20 = .ok (.ireturn, 1) := by decide +kernel
theorem dL_hop_21 : decode cL_hop 21 = .ok (.astore 6, 2) := by decide +kernel
theorem dL_hop_23 : decode cL_hop 23 = .ok (.iconst 2, 1) := by decide +kernel
theorem dL_hop_24 : decode cL_hop 24 = .ok (.ireturn, 1) := by decide +kernel
theorem dL_hop_25 : decode cL_hop 25 = .ok (.iconst 0, 1) := by decide +kernel
theorem dL_hop_26 : decode cL_hop 26 = .ok (.ireturn, 1) := by decide +kernel
theorem dL_tuning_0 : decode cL_tuning 0 = .ok (.aload 4, 2) := by decide +kernel
theorem dL_tuning_2 : decode cL_tuning 2 = .ok (.iconst 0, 1) := by decide +kernel
theorem dL_tuning_3 : decode cL_tuning 3 = .ok (.aload_n 0, 1) := by decide +kernel
theorem dL_tuning_4 : decode cL_tuning 4 = .ok (.iload_n 1, 1) := by decide +kernel
theorem dL_tuning_5 : decode cL_tuning 5 = .ok (.iload_n 2, 1) := by decide +kernel
theorem dL_tuning_6 : decode cL_tuning 6 = .ok (.iload_n 3, 1) := by decide +kernel
theorem dL_tuning_7 : decode cL_tuning 7 = .ok (.invokevirtual 85, 3) := by decide +kernel
theorem dL_tuning_10 : decode cL_tuning 10 = .ok (.i2l, 1) := by decide +kernel
theorem dL_tuning_11 : decode cL_tuning 11 = .ok (.lastore, 1) := by decide +kernel
theorem dL_tuning_12 : decode cL_tuning 12 = .ok (.goto 7, 3) := by decide +kernel
theorem dL_tuning_15 : decode cL_tuning 15 = .ok (.astore 5, 2) := by decide +kernel
theorem dL_tuning_17 : decode cL_tuning 17 = .ok (.iconst 1, 1) := by decide +kernel
theorem dL_tuning_18 : decode cL_tuning 18 = .ok (.ireturn, 1) := by decide +kernel
theorem dL_tuning_19 : decode cL_tuning 19 = .ok (.iconst 0, 1) := by decide +kernel
theorem dL_tuning_20 : decode cL_tuning 20 = .ok (.ireturn, 1) := by decide +kernel
theorem dL_ring_0 : decode cL_ring 0 = .ok (.aload 4, 2) := by decide +kernel
theorem dL_ring_2 : decode cL_ring 2 = .ok (.iconst 0, 1) := by decide +kernel
theorem dL_ring_3 : decode cL_ring 3 = .ok (.aload_n 0, 1) := by decide +kernel
theorem dL_ring_4 : decode cL_ring 4 = .ok (.iload_n 1, 1) := by decide +kernel
theorem dL_ring_5 : decode cL_ring 5 = .ok (.iload_n 2, 1) := by decide +kernel
theorem dL_ring_6 : decode cL_ring 6 = .ok (.iload_n 3, 1) := by decide +kernel
theorem dL_ring_7 : decode cL_ring 7 = .ok (.invokevirtual 88, 3) := by decide +kernel
theorem dL_ring_10 : decode cL_ring 10 = .ok (.i2l, 1) := by decide +kernel
theorem dL_ring_11 : decode cL_ring 11 = .ok (.lastore, 1) := by decide +kernel
theorem dL_ring_12 : decode cL_ring 12 = .ok (.goto 11, 3) := by decide +kernel
theorem dL_ring_15 : decode cL_ring 15 = .ok (.astore 5, 2) := by decide +kernel
theorem dL_ring_17 : decode cL_ring 17 = .ok (.iconst 1, 1) := by decide +kernel
theorem dL_ring_18 : decode cL_ring 18 = .ok (.ireturn, 1) := by decide +kernel
theorem dL_ring_19 : decode cL_ring 19 = .ok (.astore 5, 2) := by decide +kernel
theorem dL_ring_21 : decode cL_ring 21 = .ok (.iconst 2, 1) := by decide +kernel
theorem dL_ring_22 : decode cL_ring 22 = .ok (.ireturn, 1) := by decide +kernel
theorem dL_ring_23 : decode cL_ring 23 = .ok (.iconst 0, 1) := by decide +kernel
theorem dL_ring_24 : decode cL_ring 24 = .ok (.ireturn, 1) := by decide +kernel
theorem dL_look_0 : decode cL_look 0 = .ok (.aload_n 2, 1) := by decide +kernel
theorem dL_look_1 : decode cL_look 1 = .ok (.iconst 0, 1) := by decide +kernel
theorem dL_look_2 : decode cL_look 2 = .ok (.aload_n 0, 1) := by decide +kernel
theorem dL_look_3 : decode cL_look 3 = .ok (.iload_n 1, 1) := by decide +kernel
theorem dL_look_4 : decode cL_look 4 = .ok (.invokevirtual 91, 3) := by decide +kernel
theorem dL_look_7 : decode cL_look 7 = .ok (.i2l, 1) := by decide +kernel
theorem dL_look_8 : decode cL_look 8 = .ok (.lastore, 1) := by decide +kernel
theorem dL_look_9 : decode cL_look 9 = .ok (.goto 6, 3) := by decide +kernel
theorem dL_look_12 : decode cL_look 12 = .ok (.astore_n 3, 1) := by decide +kernel
theorem dL_look_13 : decode cL_look 13 = .ok (.iconst 1, 1) := by decide +kernel
theorem dL_look_14 : decode cL_look 14 = .ok (.ireturn, 1) := by decide +kernel
theorem dL_look_15 : decode cL_look 15 = .ok (.iconst 0, 1) := by decide +kernel
theorem dL_look_16 : decode cL_look 16 = .ok (.ireturn, 1) := by decide +kernel
theorem dL_latest_0 : decode cL_latest 0 = .ok (.aload_n 2, 1) := by decide +kernel
theorem dL_latest_1 : decode cL_latest 1 = .ok (.iconst 0, 1) := by decide +kernel
theorem dL_latest_2 : decode cL_latest 2 = .ok (.aload_n 0, 1) := by decide +kernel
theorem dL_latest_3 : decode cL_latest 3 = .ok (.iload_n 1, 1) := by decide +kernel
theorem dL_latest_4 : decode cL_latest 4 = .ok (.invokevirtual 94, 3) := by decide +kernel
theorem dL_latest_7 : decode cL_latest 7 = .ok (.i2l, 1) := by decide +kernel
theorem dL_latest_8 : decode cL_latest 8 = .ok (.lastore, 1) := by decide +kernel
theorem dL_latest_9 : decode cL_latest 9 = .ok (.goto 12, 3) := by decide +kernel
theorem dL_latest_12 : decode cL_latest 12 = .ok (.astore_n 3, 1) := by decide +kernel
theorem dL_latest_13 : decode cL_latest 13 = .ok (.iconst 1, 1) := by decide +kernel
theorem dL_latest_14 : decode cL_latest 14 = .ok (.ireturn, 1) := by decide +kernel
theorem dL_latest_15 : decode cL_latest 15 = .ok (.astore_n 3, 1) := by decide +kernel
theorem dL_latest_16 : decode cL_latest 16 = .ok (.iconst 2, 1) := by decide +kernel
theorem dL_latest_17 : decode cL_latest 17 = .ok (.ireturn, 1) := by decide +kernel
theorem dL_latest_18 : decode cL_latest 18 = .ok (.astore_n 3, 1) := by decide +kernel
theorem dL_latest_19 : decode cL_latest 19 = .ok (.iconst 3, 1) := by decide +kernel
theorem dL_latest_20 : decode cL_latest 20 = .ok (.ireturn, 1) := by decide +kernel
theorem dL_latest_21 : decode cL_latest 21 = .ok (.iconst 0, 1) := by decide +kernel
theorem dL_latest_22 : decode cL_latest 22 = .ok (.ireturn, 1) := by decide +kernel
theorem dL_alike_0 : decode cL_alike 0 = .ok (.aload_n 3, 1) := by decide +kernel
theorem dL_alike_1 : decode cL_alike 1 = .ok (.iconst 0, 1) := by decide +kernel
theorem dL_alike_2 : decode cL_alike 2 = .ok (.aload_n 0, 1) := by decide +kernel
theorem dL_alike_3 : decode cL_alike 3 = .ok (.iload_n 1, 1) := by decide +kernel
theorem dL_alike_4 : decode cL_alike 4 = .ok (.iload_n 2, 1) := by decide +kernel
theorem dL_alike_5 : decode cL_alike 5 = .ok (.invokevirtual 99, 3) := by decide +kernel
theorem dL_alike_8 : decode cL_alike 8 = .ok (.ifCond .eq 7, 3) := by decide +kernel
theorem dL_alike_11 : decode cL_alike 11 = .ok (.lconst 1, 1) := by decide +kernel
theorem dL_alike_12 : decode cL_alike 12 = .ok (.goto 4, 3) := by decide +kernel
theorem dL_alike_15 : decode cL_alike 15 = .ok (.lconst 0, 1) := by decide +kernel
theorem dL_alike_16 : decode cL_alike 16 = .ok (.lastore, 1) := by decide +kernel
theorem dL_alike_17 : decode cL_alike 17 = .ok (.goto 7, 3) := by decide +kernel
theorem dL_alike_20 : decode cL_alike 20 = .ok (.astore 4, 2) := by decide +kernel
theorem dL_alike_22 : decode cL_alike 22 = .ok (.iconst 1, 1) := by decide +kernel
theorem dL_alike_23 : decode cL_alike 23 = .ok (.ireturn, 1) := by decide +kernel
theorem dL_alike_24 : decode cL_alike 24 = .ok (.iconst 0, 1) := by decide +kernel
theorem dL_alike_25 : decode cL_alike 25 = .ok (.ireturn, 1) := by decide +kernel
theorem dL_chained_0 : decode cL_chained 0 = .ok (.aload_n 2, 1) := by decide +kernel
theorem dL_chained_1 : decode cL_chained 1 = .ok (.iconst 0, 1) := by decide +kernel
theorem dL_chained_2 : decode cL_chained 2 = .ok (.aload_n 0, 1) := by decide +kernel
theorem dL_chained_3 : decode cL_chained 3 = .ok (.iload_n 1, 1) := by decide +kernel
theorem dL_chained_4 : decode cL_chained 4 = .ok (.invokevirtual 103, 3) := by decide +kernel
theorem dL_chained_7 : decode cL_chained 7 = .ok (.i2l, 1) := by decide +kernel
theorem dL_chained_8 : decode cL_chained 8 = .ok (.lastore, 1) := by decide +kernel
theorem dL_chained_9 : decode cL_chained 9 = .ok (.goto 6, 3) := by decide +kernel
theorem dL_chained_12 : decode cL_chained 12 = .ok (.astore_n 3, 1) := by decide +kernel
theorem dL_chained_13 : decode cL_chained 13 = .ok (.iconst 1, 1) := by decide +kernel
theorem dL_chained_14 : decode cL_chained 14 = .ok (.ireturn, 1) := by decide +kernel
theorem dL_chained_15 : decode cL_chained 15 = .ok (.iconst 0, 1) := by decide +kernel
theorem dL_chained_16 : decode cL_chained 16 = .ok (.ireturn, 1) := by decide +kernel
theorem dL_liar_0 : decode cL_liar 0 = .ok (.aload_n 3, 1) := by decide +kernel
theorem dL_liar_1 : decode cL_liar 1 = .ok (.iconst 0, 1) := by decide +kernel
theorem dL_liar_2 : decode cL_liar 2 = .ok (.aload_n 0, 1) := by decide +kernel
theorem dL_liar_3 : decode cL_liar 3 = .ok (.iload_n 1, 1) := by decide +kernel
theorem dL_liar_4 : decode cL_liar 4 = .ok (.iload_n 2, 1) := by decide +kernel
theorem dL_liar_5 : decode cL_liar 5 = .ok (.invokevirtual 106, 3) := by decide +kernel
theorem dL_liar_8 : decode cL_liar 8 = .ok (.i2l, 1) := by decide +kernel
theorem dL_liar_9 : decode cL_liar 9 = .ok (.lastore, 1) := by decide +kernel
theorem dL_liar_10 : decode cL_liar 10 = .ok (.goto 7, 3) := by decide +kernel
theorem dL_liar_13 : decode cL_liar 13 = .ok (.astore 4, 2) := by decide +kernel
theorem dL_liar_15 : decode cL_liar 15 = .ok (.iconst 1, 1) := by decide +kernel
theorem dL_liar_16 : decode cL_liar 16 = .ok (.ireturn, 1) := by decide +kernel
theorem dL_liar_17 : decode cL_liar 17 = .ok (.iconst 0, 1) := by decide +kernel
theorem dL_liar_18 : decode cL_liar 18 = .ok (.ireturn, 1) := by decide +kernel
theorem dL_reach_0 : decode cL_reach 0 = .ok (.aload_n 2, 1) := by decide +kernel
theorem dL_reach_1 : decode cL_reach 1 = .ok (.iconst 0, 1) := by decide +kernel
theorem dL_reach_2 : decode cL_reach 2 = .ok (.aload_n 0, 1) := by decide +kernel
theorem dL_reach_3 : decode cL_reach 3 = .ok (.iload_n 1, 1) := by decide +kernel
theorem dL_reach_4 : decode cL_reach 4 = .ok (.invokevirtual 109, 3) := by decide +kernel
theorem dL_reach_7 : decode cL_reach 7 = .ok (.i2l, 1) := by decide +kernel
theorem dL_reach_8 : decode cL_reach 8 = .ok (.lastore, 1) := by decide +kernel
theorem dL_reach_9 : decode cL_reach 9 = .ok (.goto 6, 3) := by decide +kernel
theorem dL_reach_12 : decode cL_reach 12 = .ok (.astore_n 3, 1) := by decide +kernel
theorem dL_reach_13 : decode cL_reach 13 = .ok (.iconst 1, 1) := by decide +kernel
theorem dL_reach_14 : decode cL_reach 14 = .ok (.ireturn, 1) := by decide +kernel
theorem dL_reach_15 : decode cL_reach 15 = .ok (.iconst 0, 1) := by decide +kernel
theorem dL_reach_16 : decode cL_reach 16 = .ok (.ireturn, 1) := by decide +kernel
theorem dL_season_0 : decode cL_season 0 = .ok (.aload 5, 2) := by decide +kernel
theorem dL_season_2 : decode cL_season 2 = .ok (.iconst 0, 1) := by decide +kernel
theorem dL_season_3 : decode cL_season 3 = .ok (.aload_n 0, 1) := by decide +kernel
theorem dL_season_4 : decode cL_season 4 = .ok (.iload_n 1, 1) := by decide +kernel
theorem dL_season_5 : decode cL_season 5 = .ok (.iload_n 2, 1) := by decide +kernel
theorem dL_season_6 : decode cL_season 6 = .ok (.iload_n 3, 1) := by decide +kernel
theorem dL_season_7 : decode cL_season 7 = .ok (.iload 4, 2) := by decide +kernel
theorem dL_season_9 : decode cL_season 9 = .ok (.invokevirtual 112, 3) := by decide +kernel
theorem dL_season_12 : decode cL_season 12 = .ok (.i2l, 1) := by decide +kernel
theorem dL_season_13 : decode cL_season 13 = .ok (.lastore, 1) := by decide +kernel
theorem dL_season_14 : decode cL_season 14 = .ok (.goto 7, 3) := by decide +kernel
theorem dL_season_17 : decode cL_season 17 = .ok (.astore 6, 2) := by decide +kernel
theorem dL_season_19 : decode cL_season 19 = .ok (.iconst 1, 1) := by decide +kernel
theorem dL_season_20 : decode cL_season 20 = .ok (.ireturn, 1) := by decide +kernel
theorem dL_season_21 : decode cL_season 21 = .ok (.iconst 0, 1) := by decide +kernel
theorem dL_season_22 : decode cL_season 22 = .ok (.ireturn, 1) := by decide +kernel
theorem dL_span_0 : decode cL_span 0 = .ok (.aload 7, 2) := by decide +kernel
theorem dL_span_2 : decode cL_span 2 = .ok (.iconst 0, 1) := by decide +kernel
theorem dL_span_3 : decode cL_span 3 = .ok (.aload_n 0, 1) := by decide +kernel
theorem dL_span_4 : decode cL_span 4 = .ok (.iload_n 1, 1) := by decide +kernel
theorem dL_span_5 : decode cL_span 5 = .ok (.iload_n 2, 1) := by decide +kernel
theorem dL_span_6 : decode cL_span 6 = .ok (.iload_n 3, 1) := by decide +kernel
theorem dL_span_7 : decode cL_span 7 = .ok (.iload 4, 2) := by decide +kernel
theorem dL_span_9 : decode cL_span 9 = .ok (.iload 5, 2) := by decide +kernel
theorem dL_span_11 : decode cL_span 11 = .ok (.iload 6, 2) := by decide +kernel
theorem dL_span_13 : decode cL_span 13 = .ok (.invokevirtual 115, 3) := by decide +kernel
theorem dL_span_16 : decode cL_span 16 = .ok (.i2l, 1) := by decide +kernel
theorem dL_span_17 : decode cL_span 17 = .ok (.lastore, 1) := by decide +kernel
theorem dL_span_18 : decode cL_span 18 = .ok (.goto 7, 3) := by decide +kernel
theorem dL_span_21 : decode cL_span 21 = .ok (.astore 8, 2) := by decide +kernel
theorem dL_span_23 : decode cL_span 23 = .ok (.iconst 1, 1) := by decide +kernel
theorem dL_span_24 : decode cL_span 24 = .ok (.ireturn, 1) := by decide +kernel
theorem dL_span_25 : decode cL_span 25 = .ok (.iconst 0, 1) := by decide +kernel
theorem dL_span_26 : decode cL_span 26 = .ok (.ireturn, 1) := by decide +kernel
