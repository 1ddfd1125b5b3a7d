/-! decode rows of the law -/
def dlb_420 : List (Nat × Instr × Nat) := [(822, .iaload, 1), (823, .invokevirtual 170, 3), (826, .istore 6, 2), (828, .aload_n 2, 1), (829, .invokevirtual 134, 3), (832, .iload 5, 2), (834, .if_icmp .eq 5, 3), (837, .iconst 0, 1), (838, .ireturn, 1), (839, .iload 5, 2), (841, .ifCond .ne 15, 3), (844, .aload_n 3, 1), (845, .iconst 0, 1), (846, .laload, 1), (847, .iload 6, 2), (849, .i2l, 1), (850, .lcmp, 1), (851, .ifCond .eq 5, 3), (854, .iconst 0, 1), (855, .ireturn, 1), (856, .goto 1809, 3), (859, .aload_n 1, 1), (860, .aload_n 0, 1), (861, .iload 4, 2), (863, .iconst 1, 1), (864, .iadd, 1), (865, .iaload, 1), (866, .aload_n 0, 1), (867, .iload 4, 2), (869, .iconst 2, 1), (870, .iadd, 1), (871, .iaload, 1), (872, .aload_n 3, 1), (873, .invokestatic 171, 3), (876, .istore 5, 2), (878, .aload_n 2, 1), (879, .aload_n 0, 1), (880, .iload 4, 2), (882, .iconst 1, 1), (883, .iadd, 1), (884, .iaload, 1), (885, .aload_n 0, 1), (886, .iload 4, 2), (888, .iconst 2, 1), (889, .iadd, 1), (890, .iaload, 1), (891, .invokevirtual 173, 3), (894, .istore 6, 2), (896, .aload_n 2, 1), (897, .invokevirtual 134, 3), (900, .iload 5, 2), (902, .if_icmp .eq 5, 3), (905, .iconst 0, 1), (906, .ireturn, 1), (907, .iload 5, 2), (909, .ifCond .ne 15, 3), (912, .aload_n 3, 1), (913, .iconst 0, 1), (914, .laload, 1), (915, .iload 6, 2)]
theorem dlc_420 : (dlb_420.all fun q => decide (decode cL_law_ q.1 = .ok q.2)) = true := by decide +kernel
theorem dL_law__822 : decode cL_law_ 822 = .ok (.iaload, 1) := dcr dlc_420 0 rfl
theorem dL_law__823 : decode cL_law_ 823 = .ok (.invokevirtual 170, 3) := dcr dlc_420 1 rfl
theorem dL_law__826 : decode cL_law_ 826 = .ok (.istore 6, 2) := dcr dlc_420 2 rfl
theorem dL_law__828 : decode cL_law_ 828 = .ok (.aload_n 2, 1) := dcr dlc_420 3 rfl
theorem dL_law__829 : decode cL_law_ 829 = .ok (.invokevirtual 134, 3) := dcr dlc_420 4 rfl
theorem dL_law__832 : decode cL_law_ 832 = .ok (.iload 5, 2) := dcr dlc_420 5 rfl
theorem dL_law__834 : decode cL_law_ 834 = .ok (.if_icmp .eq 5, 3) := dcr dlc_420 6 rfl
theorem dL_law__837 : decode cL_law_ 837 = .ok (.iconst 0, 1) := dcr dlc_420 7 rfl
theorem dL_law__838 : decode cL_law_ 838 = .ok (.ireturn, 1) := dcr dlc_420 8 rfl
theorem dL_law__839 : decode cL_law_ 839 = .ok (.iload 5, 2) := dcr dlc_420 9 rfl
theorem dL_law__841 : decode cL_law_ 841 = .ok (.ifCond .ne 15, 3) := dcr dlc_420 10 rfl
theorem dL_law__844 : decode cL_law_ 844 = .ok (.aload_n 3, 1) := dcr dlc_420 11 rfl
theorem dL_law__845 : decode cL_law_ 845 = .ok (.iconst 0, 1) := dcr dlc_420 12 rfl
theorem dL_law__846 : decode cL_law_ 846 = .ok (.laload, 1) := dcr dlc_420 13 rfl
theorem dL_law__847 : decode cL_law_ 847 = .ok (.iload 6, 2) := dcr dlc_420 14 rfl
theorem dL_law__849 : decode cL_law_ 849 = .ok (.i2l, 1) := dcr dlc_420 15 rfl
theorem dL_law__850 : decode cL_law_ 850 = .ok (.lcmp, 1) := dcr dlc_420 16 rfl
theorem dL_law__851 : decode cL_law_ 851 = .ok (.ifCond .eq 5, 3) := dcr dlc_420 17 rfl
theorem dL_law__854 : decode cL_law_ 854 = .ok (.iconst 0, 1) := dcr dlc_420 18 rfl
theorem dL_law__855 : decode cL_law_ 855 = .ok (.ireturn, 1) := dcr dlc_420 19 rfl
theorem dL_law__856 : decode cL_law_ 856 = .ok (.goto 1809, 3) := dcr dlc_420 20 rfl
theorem dL_law__859 : decode cL_law_ 859 = .ok (.aload_n 1, 1) := dcr dlc_420 21 rfl
theorem dL_law__860 : decode cL_law_ 860 = .ok (.aload_n 0, 1) := dcr dlc_420 22 rfl
theorem dL_law__861 : decode cL_law_ 861 = .ok (.iload 4, 2) := dcr dlc_420 23 rfl
theorem dL_law__863 : decode cL_law_ 863 = .ok (.iconst 1, 1) := dcr dlc_420 24 rfl
theorem dL_law__864 : decode cL_law_ 864 = .ok (.iadd, 1) := dcr dlc_420 25 rfl
theorem dL_law__865 : decode cL_law_ 865 = .ok (.iaload, 1) := dcr dlc_420 26 rfl
theorem dL_law__866 : decode cL_law_ 866 = .ok (.aload_n 0, 1) := dcr dlc_420 27 rfl
theorem dL_law__867 : decode cL_law_ 867 = .ok (.iload 4, 2) := dcr dlc_420 28 rfl
theorem dL_law__869 : decode cL_law_ 869 = .ok (.iconst 2, 1) := dcr dlc_420 29 rfl
theorem dL_law__870 : decode cL_law_ 870 = .ok (.iadd, 1) := dcr dlc_420 30 rfl
theorem dL_law__871 : decode cL_law_ 871 = .ok (.iaload, 1) := dcr dlc_420 31 rfl
theorem dL_law__872 : decode cL_law_ 872 = .ok (.aload_n 3, 1) := dcr dlc_420 32 rfl
theorem dL_law__873 : decode cL_law_ 873 = .ok (.invokestatic 171, 3) := dcr dlc_420 33 rfl
theorem dL_law__876 : decode cL_law_ 876 = .ok (.istore 5, 2) := dcr dlc_420 34 rfl
theorem dL_law__878 : decode cL_law_ 878 = .ok (.aload_n 2, 1) := dcr dlc_420 35 rfl
theorem dL_law__879 : decode cL_law_ 879 = .ok (.aload_n 0, 1) := dcr dlc_420 36 rfl
theorem dL_law__880 : decode cL_law_ 880 = .ok (.iload 4, 2) := dcr dlc_420 37 rfl
theorem dL_law__882 : decode cL_law_ 882 = .ok (.iconst 1, 1) := dcr dlc_420 38 rfl
theorem dL_law__883 : decode cL_law_ 883 = .ok (.iadd, 1) := dcr dlc_420 39 rfl
theorem dL_law__884 : decode cL_law_ 884 = .ok (.iaload, 1) := dcr dlc_420 40 rfl
theorem dL_law__885 : decode cL_law_ 885 = .ok (.aload_n 0, 1) := dcr dlc_420 41 rfl
theorem dL_law__886 : decode cL_law_ 886 = .ok (.iload 4, 2) := dcr dlc_420 42 rfl
theorem dL_law__888 : decode cL_law_ 888 = .ok (.iconst 2, 1) := dcr dlc_420 43 rfl
theorem dL_law__889 : decode cL_law_ 889 = .ok (.iadd, 1) := dcr dlc_420 44 rfl
theorem dL_law__890 : decode cL_law_ 890 = .ok (.iaload, 1) := dcr dlc_420 45 rfl
theorem dL_law__891 : decode cL_law_ 891 = .ok (.invokevirtual 173, 3) := dcr dlc_420 46 rfl
theorem dL_law__894 : decode cL_law_ 894 = .ok (.istore 6, 2) := dcr dlc_420 47 rfl
theorem dL_law__896 : decode cL_law_ 896 = .ok (.aload_n 2, 1) := dcr dlc_420 48 rfl
theorem dL_law__897 : decode cL_law_ 897 = .ok (.invokevirtual 134, 3) := dcr dlc_420 49 rfl
theorem dL_law__900 : decode cL_law_ 900 = .ok (.iload 5, 2) := dcr dlc_420 50 rfl
theorem dL_law__902 : decode cL_law_ 902 = .ok (.if_icmp .eq 5, 3) := dcr dlc_420 51 rfl
theorem dL_law__905 : decode cL_law_ 905 = .ok (.iconst 0, 1) := dcr dlc_420 52 rfl
theorem dL_law__906 : decode cL_law_ 906 = .ok (.ireturn, 1) := dcr dlc_420 53 rfl
theorem dL_law__907 : decode cL_law_ 907 = .ok (.iload 5, 2) := dcr dlc_420 54 rfl
theorem dL_law__909 : decode cL_law_ 909 = .ok (.ifCond .ne 15, 3) := dcr dlc_420 55 rfl
theorem dL_law__912 : decode cL_law_ 912 = .ok (.aload_n 3, 1) := dcr dlc_420 56 rfl
theorem dL_law__913 : decode cL_law_ 913 = .ok (.iconst 0, 1) := dcr dlc_420 57 rfl
theorem dL_law__914 : decode cL_law_ 914 = .ok (.laload, 1) := dcr dlc_420 58 rfl
theorem dL_law__915 : decode cL_law_ 915 = .ok (.iload 6, 2) := dcr dlc_420 59 rfl
def dlb_480 : List (Nat × Instr × Nat) := [(917, .i2l, 1), (918, .lcmp, 1), (919, .ifCond .eq 5, 3), (922, .iconst 0, 1), (923, .ireturn, 1), (924, .goto 1741, 3), (927, .aload_n 1, 1), (928, .aload_n 0, 1), (929, .iload 4, 2), (931, .iconst 1, 1), (932, .iadd, 1), (933, .iaload, 1), (934, .aload_n 0, 1), (935, .iload 4, 2), (937, .iconst 2, 1), (938, .iadd, 1), (939, .iaload, 1), (940, .aload_n 3, 1), (941, .invokestatic 174, 3), (944, .istore 5, 2), (946, .aload_n 2, 1), (947, .aload_n 0, 1), (948, .iload 4, 2), (950, .iconst 1, 1), (951, .iadd, 1), (952, .iaload, 1), (953, .aload_n 0, 1), (954, .iload 4, 2), (956, .iconst 2, 1), (957, .iadd, 1), (958, .iaload, 1), (959, .invokevirtual 176, 3), (962, .istore 6, 2), (964, .aload_n 2, 1), (965, .invokevirtual 134, 3), (968, .iload 5, 2), (970, .if_icmp .eq 5, 3), (973, .iconst 0, 1), (974, .ireturn, 1), (975, .iload 5, 2), (977, .ifCond .ne 15, 3), (980, .aload_n 3, 1), (981, .iconst 0, 1), (982, .laload, 1), (983, .iload 6, 2), (985, .i2l, 1), (986, .lcmp, 1), (987, .ifCond .eq 5, 3), (990, .iconst 0, 1), (991, .ireturn, 1), (992, .goto 1673, 3), (995, .aload_n 1, 1), (996, .aload_n 0, 1), (997, .iload 4, 2), (999, .iconst 1, 1), (1000, .iadd, 1), (1001, .iaload, 1), (1002, .aload_n 0, 1), (1003, .iload 4, 2), (1005, .iconst 2, 1)]
theorem dlc_480 : (dlb_480.all fun q => decide (decode cL_law_ q.1 = .ok q.2)) = true := by decide +kernel
theorem dL_law__917 : decode cL_law_ 917 = .ok (.i2l, 1) := dcr dlc_480 0 rfl
theorem dL_law__918 : decode cL_law_ 918 = .ok (.lcmp, 1) := dcr dlc_480 1 rfl
theorem dL_law__919 : decode cL_law_ 919 = .ok (.ifCond .eq 5, 3) := dcr dlc_480 2 rfl
theorem dL_law__922 : decode cL_law_ 922 = .ok (.iconst 0, 1) := dcr dlc_480 3 rfl
theorem dL_law__923 : decode cL_law_ 923 = .ok (.ireturn, 1) := dcr dlc_480 4 rfl
theorem dL_law__924 : decode cL_law_ 924 = .ok (.goto 1741, 3) := dcr dlc_480 5 rfl
theorem dL_law__927 : decode cL_law_ 927 = .ok (.aload_n 1, 1) := dcr dlc_480 6 rfl
theorem dL_law__928 : decode cL_law_ 928 = .ok (.aload_n 0, 1) := dcr dlc_480 7 rfl
theorem dL_law__929 : decode cL_law_ 929 = .ok (.iload 4, 2) := dcr dlc_480 8 rfl
theorem dL_law__931 : decode cL_law_ 931 = .ok (.iconst 1, 1) := dcr dlc_480 9 rfl
theorem dL_law__932 : decode cL_law_ 932 = .ok (.iadd, 1) := dcr dlc_480 10 rfl
theorem dL_law__933 : decode cL_law_ 933 = .ok (.iaload, 1) := dcr dlc_480 11 rfl
theorem dL_law__934 : decode cL_law_ 934 = .ok (.aload_n 0, 1) := dcr dlc_480 12 rfl
theorem dL_law__935 : decode cL_law_ 935 = .ok (.iload 4, 2) := dcr dlc_480 13 rfl
theorem dL_law__937 : decode cL_law_ 937 = .ok (.iconst 2, 1) := dcr dlc_480 14 rfl
theorem dL_law__938 : decode cL_law_ 938 = .ok (.iadd, 1) := dcr dlc_480 15 rfl
theorem dL_law__939 : decode cL_law_ 939 = .ok (.iaload, 1) := dcr dlc_480 16 rfl
theorem dL_law__940 : decode cL_law_ 940 = .ok (.aload_n 3, 1) := dcr dlc_480 17 rfl
theorem dL_law__941 : decode cL_law_ 941 = .ok (.invokestatic 174, 3) := dcr dlc_480 18 rfl
theorem dL_law__944 : decode cL_law_ 944 = .ok (.istore 5, 2) := dcr dlc_480 19 rfl
theorem dL_law__946 : decode cL_law_ 946 = .ok (.aload_n 2, 1) := dcr dlc_480 20 rfl
theorem dL_law__947 : decode cL_law_ 947 = .ok (.aload_n 0, 1) := dcr dlc_480 21 rfl
theorem dL_law__948 : decode cL_law_ 948 = .ok (.iload 4, 2) := dcr dlc_480 22 rfl
theorem dL_law__950 : decode cL_law_ 950 = .ok (.iconst 1, 1) := dcr dlc_480 23 rfl
theorem dL_law__951 : decode cL_law_ 951 = .ok (.iadd, 1) := dcr dlc_480 24 rfl
theorem dL_law__952 : decode cL_law_ 952 = .ok (.iaload, 1) := dcr dlc_480 25 rfl
theorem dL_law__953 : decode cL_law_ 953 = .ok (.aload_n 0, 1) := dcr dlc_480 26 rfl
theorem dL_law__954 : decode cL_law_ 954 = .ok (.iload 4, 2) := dcr dlc_480 27 rfl
theorem dL_law__956 : decode cL_law_ 956 = .ok (.iconst 2, 1) := dcr dlc_480 28 rfl
theorem dL_law__957 : decode cL_law_ 957 = .ok (.iadd, 1) := dcr dlc_480 29 rfl
theorem dL_law__958 : decode cL_law_ 958 = .ok (.iaload, 1) := dcr dlc_480 30 rfl
theorem dL_law__959 : decode cL_law_ 959 = .ok (.invokevirtual 176, 3) := dcr dlc_480 31 rfl
theorem dL_law__962 : decode cL_law_ 962 = .ok (.istore 6, 2) := dcr dlc_480 32 rfl
theorem dL_law__964 : decode cL_law_ 964 = .ok (.aload_n 2, 1) := dcr dlc_480 33 rfl
theorem dL_law__965 : decode cL_law_ 965 = .ok (.invokevirtual 134, 3) := dcr dlc_480 34 rfl
theorem dL_law__968 : decode cL_law_ 968 = .ok (.iload 5, 2) := dcr dlc_480 35 rfl
theorem dL_law__970 : decode cL_law_ 970 = .ok (.if_icmp .eq 5, 3) := dcr dlc_480 36 rfl
theorem dL_law__973 : decode cL_law_ 973 = .ok (.iconst 0, 1) := dcr dlc_480 37 rfl
theorem dL_law__974 : decode cL_law_ 974 = .ok (.ireturn, 1) := dcr dlc_480 38 rfl
theorem dL_law__975 : decode cL_law_ 975 = .ok (.iload 5, 2) := dcr dlc_480 39 rfl
theorem dL_law__977 : decode cL_law_ 977 = .ok (.ifCond .ne 15, 3) := dcr dlc_480 40 rfl
theorem dL_law__980 : decode cL_law_ 980 = .ok (.aload_n 3, 1) := dcr dlc_480 41 rfl
theorem dL_law__981 : decode cL_law_ 981 = .ok (.iconst 0, 1) := dcr dlc_480 42 rfl
theorem dL_law__982 : decode cL_law_ 982 = .ok (.laload, 1) := dcr dlc_480 43 rfl
theorem dL_law__983 : decode cL_law_ 983 = .ok (.iload 6, 2) := dcr dlc_480 44 rfl
theorem dL_law__985 : decode cL_law_ 985 = .ok (.i2l, 1) := dcr dlc_480 45 rfl
theorem dL_law__986 : decode cL_law_ 986 = .ok (.lcmp, 1) := dcr dlc_480 46 rfl
theorem dL_law__987 : decode cL_law_ 987 = .ok (.ifCond .eq 5, 3) := dcr dlc_480 47 rfl
theorem dL_law__990 : decode cL_law_ 990 = .ok (.iconst 0, 1) := dcr dlc_480 48 rfl
theorem dL_law__991 : decode cL_law_ 991 = .ok (.ireturn, 1) := dcr dlc_480 49 rfl
theorem dL_law__992 : decode cL_law_ 992 = .ok (.goto 1673, 3) := dcr dlc_480 50 rfl
theorem dL_law__995 : decode cL_law_ 995 = .ok (.aload_n 1, 1) := dcr dlc_480 51 rfl
theorem dL_law__996 : decode cL_law_ 996 = .ok (.aload_n 0, 1) := dcr dlc_480 52 rfl
theorem dL_law__997 : decode cL_law_ 997 = .ok (.iload 4, 2) := dcr dlc_480 53 rfl
theorem dL_law__999 : decode cL_law_ 999 = .ok (.iconst 1, 1) := dcr dlc_480 54 rfl
theorem dL_law__1000 : decode cL_law_ 1000 = .ok (.iadd, 1) := dcr dlc_480 55 rfl
theorem dL_law__1001 : decode cL_law_ 1001 = .ok (.iaload, 1) := dcr dlc_480 56 rfl
theorem dL_law__1002 : decode cL_law_ 1002 = .ok (.aload_n 0, 1) := dcr dlc_480 57 rfl
theorem dL_law__1003 : decode cL_law_ 1003 = .ok (.iload 4, 2) := dcr dlc_480 58 rfl
theorem dL_law__1005 : decode cL_law_ 1005 = .ok (.iconst 2, 1) := dcr dlc_480 59 rfl
def dlb_540 : List (Nat × Instr × Nat) := [(1006, .iadd, 1), (1007, .iaload, 1), (1008, .aload_n 0, 1), (1009, .iload 4, 2), (1011, .iconst 3, 1), (1012, .iadd, 1), (1013, .iaload, 1), (1014, .aload_n 0, 1), (1015, .iload 4, 2), (1017, .iconst 4, 1), (1018, .iadd, 1), (1019, .iaload, 1), (1020, .aload_n 0, 1), (1021, .iload 4, 2), (1023, .iconst 5, 1), (1024, .iadd, 1), (1025, .iaload, 1), (1026, .aload_n 0, 1), (1027, .iload 4, 2), (1029, .bipush 6, 2), (1031, .iadd, 1), (1032, .iaload, 1), (1033, .aload_n 0, 1), (1034, .iload 4, 2), (1036, .bipush 7, 2), (1038, .iadd, 1), (1039, .iaload, 1), (1040, .aload_n 0, 1), (1041, .iload 4, 2), (1043, .bipush 8, 2), (1045, .iadd, 1), (1046, .iaload, 1), (1047, .aload_n 3, 1), (1048, .invokestatic 177, 3), (1051, .istore 5, 2), (1053, .aload_n 2, 1), (1054, .aload_n 0, 1), (1055, .iload 4, 2), (1057, .iconst 1, 1), (1058, .iadd, 1), (1059, .iaload, 1), (1060, .aload_n 0, 1), (1061, .iload 4, 2), (1063, .iconst 2, 1), (1064, .iadd, 1), (1065, .iaload, 1), (1066, .aload_n 0, 1), (1067, .iload 4, 2), (1069, .iconst 3, 1), (1070, .iadd, 1), (1071, .iaload, 1), (1072, .aload_n 0, 1), (1073, .iload 4, 2), (1075, .iconst 4, 1), (1076, .iadd, 1), (1077, .iaload, 1), (1078, .aload_n 0, 1), (1079, .iload 4, 2), (1081, .iconst 5, 1), (1082, .iadd, 1)]
theorem dlc_540 : (dlb_540.all fun q => decide (decode cL_law_ q.1 = .ok q.2)) = true := by decide +kernel
theorem dL_law__1006 : decode cL_law_ 1006 = .ok (.iadd, 1) := dcr dlc_540 0 rfl
theorem dL_law__1007 : decode cL_law_ 1007 = .ok (.iaload, 1) := dcr dlc_540 1 rfl
theorem dL_law__1008 : decode cL_law_ 1008 = .ok (.aload_n 0, 1) := dcr dlc_540 2 rfl
theorem dL_law__1009 : decode cL_law_ 1009 = .ok (.iload 4, 2) := dcr dlc_540 3 rfl
theorem dL_law__1011 : decode cL_law_ 1011 = .ok (.iconst 3, 1) := dcr dlc_540 4 rfl
theorem dL_law__1012 : decode cL_law_ 1012 = .ok (.iadd, 1) := dcr dlc_540 5 rfl
theorem dL_law__1013 : decode cL_law_ 1013 = .ok (.iaload, 1) := dcr dlc_540 6 rfl
theorem dL_law__1014 : decode cL_law_ 1014 = .ok (.aload_n 0, 1) := dcr dlc_540 7 rfl
theorem dL_law__1015 : decode cL_law_ 1015 = .ok (.iload 4, 2) := dcr dlc_540 8 rfl
theorem dL_law__1017 : decode cL_law_ 1017 = .ok (.iconst 4, 1) := dcr dlc_540 9 rfl
theorem dL_law__1018 : decode cL_law_ 1018 = .ok (.iadd, 1) := dcr dlc_540 10 rfl
theorem dL_law__1019 : decode cL_law_ 1019 = .ok (.iaload, 1) := dcr dlc_540 11 rfl
theorem dL_law__1020 : decode cL_law_ 1020 = .ok (.aload_n 0, 1) := dcr dlc_540 12 rfl
theorem dL_law__1021 : decode cL_law_ 1021 = .ok (.iload 4, 2) := dcr dlc_540 13 rfl
theorem dL_law__1023 : decode cL_law_ 1023 = .ok (.iconst 5, 1) := dcr dlc_540 14 rfl
theorem dL_law__1024 : decode cL_law_ 1024 = .ok (.iadd, 1) := dcr dlc_540 15 rfl
theorem dL_law__1025 : decode cL_law_ 1025 = .ok (.iaload, 1) := dcr dlc_540 16 rfl
theorem dL_law__1026 : decode cL_law_ 1026 = .ok (.aload_n 0, 1) := dcr dlc_540 17 rfl
theorem dL_law__1027 : decode cL_law_ 1027 = .ok (.iload 4, 2) := dcr dlc_540 18 rfl
theorem dL_law__1029 : decode cL_law_ 1029 = .ok (.bipush 6, 2) := dcr dlc_540 19 rfl
theorem dL_law__1031 : decode cL_law_ 1031 = .ok (.iadd, 1) := dcr dlc_540 20 rfl
theorem dL_law__1032 : decode cL_law_ 1032 = .ok (.iaload, 1) := dcr dlc_540 21 rfl
theorem dL_law__1033 : decode cL_law_ 1033 = .ok (.aload_n 0, 1) := dcr dlc_540 22 rfl
theorem dL_law__1034 : decode cL_law_ 1034 = .ok (.iload 4, 2) := dcr dlc_540 23 rfl
theorem dL_law__1036 : decode cL_law_ 1036 = .ok (.bipush 7, 2) := dcr dlc_540 24 rfl
theorem dL_law__1038 : decode cL_law_ 1038 = .ok (.iadd, 1) := dcr dlc_540 25 rfl
theorem dL_law__1039 : decode cL_law_ 1039 = .ok (.iaload, 1) := dcr dlc_540 26 rfl
theorem dL_law__1040 : decode cL_law_ 1040 = .ok (.aload_n 0, 1) := dcr dlc_540 27 rfl
theorem dL_law__1041 : decode cL_law_ 1041 = .ok (.iload 4, 2) := dcr dlc_540 28 rfl
theorem dL_law__1043 : decode cL_law_ 1043 = .ok (.bipush 8, 2) := dcr dlc_540 29 rfl
theorem dL_law__1045 : decode cL_law_ 1045 = .ok (.iadd, 1) := dcr dlc_540 30 rfl
theorem dL_law__1046 : decode cL_law_ 1046 = .ok (.iaload, 1) := dcr dlc_540 31 rfl
theorem dL_law__1047 : decode cL_law_ 1047 = .ok (.aload_n 3, 1) := dcr dlc_540 32 rfl
theorem dL_law__1048 : decode cL_law_ 1048 = .ok (.invokestatic 177, 3) := dcr dlc_540 33 rfl
theorem dL_law__1051 : decode cL_law_ 1051 = .ok (.istore 5, 2) := dcr dlc_540 34 rfl
theorem dL_law__1053 : decode cL_law_ 1053 = .ok (.aload_n 2, 1) := dcr dlc_540 35 rfl
theorem dL_law__1054 : decode cL_law_ 1054 = .ok (.aload_n 0, 1) := dcr dlc_540 36 rfl
theorem dL_law__1055 : decode cL_law_ 1055 = .ok (.iload 4, 2) := dcr dlc_540 37 rfl
theorem dL_law__1057 : decode cL_law_ 1057 = .ok (.iconst 1, 1) := dcr dlc_540 38 rfl
theorem dL_law__1058 : decode cL_law_ 1058 = .ok (.iadd, 1) := dcr dlc_540 39 rfl
theorem dL_law__1059 : decode cL_law_ 1059 = .ok (.iaload, 1) := dcr dlc_540 40 rfl
theorem dL_law__1060 : decode cL_law_ 1060 = .ok (.aload_n 0, 1) := dcr dlc_540 41 rfl
theorem dL_law__1061 : decode cL_law_ 1061 = .ok (.iload 4, 2) := dcr dlc_540 42 rfl
theorem dL_law__1063 : decode cL_law_ 1063 = .ok (.iconst 2, 1) := dcr dlc_540 43 rfl
theorem dL_law__1064 : decode cL_law_ 1064 = .ok (.iadd, 1) := dcr dlc_540 44 rfl
theorem dL_law__1065 : decode cL_law_ 1065 = .ok (.iaload, 1) := dcr dlc_540 45 rfl
theorem dL_law__1066 : decode cL_law_ 1066 = .ok (.aload_n 0, 1) := dcr dlc_540 46 rfl
theorem dL_law__1067 : decode cL_law_ 1067 = .ok (.iload 4, 2) := dcr dlc_540 47 rfl
theorem dL_law__1069 : decode cL_law_ 1069 = .ok (.iconst 3, 1) := dcr dlc_540 48 rfl
theorem dL_law__1070 : decode cL_law_ 1070 = .ok (.iadd, 1) := dcr dlc_540 49 rfl
theorem dL_law__1071 : decode cL_law_ 1071 = .ok (.iaload, 1) := dcr dlc_540 50 rfl
theorem dL_law__1072 : decode cL_law_ 1072 = .ok (.aload_n 0, 1) := dcr dlc_540 51 rfl
theorem dL_law__1073 : decode cL_law_ 1073 = .ok (.iload 4, 2) := dcr dlc_540 52 rfl
theorem dL_law__1075 : decode cL_law_ 1075 = .ok (.iconst 4, 1) := dcr dlc_540 53 rfl
theorem dL_law__1076 : decode cL_law_ 1076 = .ok (.iadd, 1) := dcr dlc_540 54 rfl
theorem dL_law__1077 : decode cL_law_ 1077 = .ok (.iaload, 1) := dcr dlc_540 55 rfl
theorem dL_law__1078 : decode cL_law_ 1078 = .ok (.aload_n 0, 1) := dcr dlc_540 56 rfl
theorem dL_law__1079 : decode cL_law_ 1079 = .ok (.iload 4, 2) := dcr dlc_540 57 rfl
theorem dL_law__1081 : decode cL_law_ 1081 = .ok (.iconst 5, 1) := dcr dlc_540 58 rfl
theorem dL_law__1082 : decode cL_law_ 1082 = .ok (.iadd, 1) := dcr dlc_540 59 rfl
def dlb_600 : List (Nat × Instr × Nat) := [(1083, .iaload, 1), (1084, .aload_n 0, 1), (1085, .iload 4, 2), (1087, .bipush 6, 2), (1089, .iadd, 1), (1090, .iaload, 1), (1091, .aload_n 0, 1), (1092, .iload 4, 2), (1094, .bipush 7, 2), (1096, .iadd, 1), (1097, .iaload, 1), (1098, .aload_n 0, 1), (1099, .iload 4, 2), (1101, .bipush 8, 2), (1103, .iadd, 1), (1104, .iaload, 1), (1105, .invokevirtual 180, 3), (1108, .istore 6, 2), (1110, .aload_n 2, 1), (1111, .invokevirtual 134, 3), (1114, .iload 5, 2), (1116, .if_icmp .eq 5, 3), (1119, .iconst 0, 1), (1120, .ireturn, 1), (1121, .iload 5, 2), (1123, .ifCond .ne 15, 3), (1126, .aload_n 3, 1), (1127, .iconst 0, 1), (1128, .laload, 1), (1129, .iload 6, 2), (1131, .i2l, 1), (1132, .lcmp, 1), (1133, .ifCond .eq 5, 3), (1136, .iconst 0, 1), (1137, .ireturn, 1), (1138, .goto 1527, 3), (1141, .aload_n 1, 1), (1142, .aload_n 0, 1), (1143, .iload 4, 2), (1145, .iconst 1, 1), (1146, .iadd, 1), (1147, .iaload, 1), (1148, .aload_n 3, 1), (1149, .invokestatic 181, 3), (1152, .istore 5, 2), (1154, .aload_n 2, 1), (1155, .aload_n 0, 1), (1156, .iload 4, 2), (1158, .iconst 1, 1), (1159, .iadd, 1), (1160, .iaload, 1), (1161, .invokevirtual 183, 3), (1164, .istore 6, 2), (1166, .aload_n 2, 1), (1167, .invokevirtual 134, 3), (1170, .iload 5, 2), (1172, .if_icmp .eq 5, 3), (1175, .iconst 0, 1), (1176, .ireturn, 1), (1177, .iload 5, 2)]
theorem dlc_600 : (dlb_600.all fun q => decide (decode cL_law_ q.1 = .ok q.2)) = true := by decide +kernel
theorem dL_law__1083 : decode cL_law_ 1083 = .ok (.iaload, 1) := dcr dlc_600 0 rfl
theorem dL_law__1084 : decode cL_law_ 1084 = .ok (.aload_n 0, 1) := dcr dlc_600 1 rfl
theorem dL_law__1085 : decode cL_law_ 1085 = .ok (.iload 4, 2) := dcr dlc_600 2 rfl
theorem dL_law__1087 : decode cL_law_ 1087 = .ok (.bipush 6, 2) := dcr dlc_600 3 rfl
theorem dL_law__1089 : decode cL_law_ 1089 = .ok (.iadd, 1) := dcr dlc_600 4 rfl
theorem dL_law__1090 : decode cL_law_ 1090 = .ok (.iaload, 1) := dcr dlc_600 5 rfl
theorem dL_law__1091 : decode cL_law_ 1091 = .ok (.aload_n 0, 1) := dcr dlc_600 6 rfl
theorem dL_law__1092 : decode cL_law_ 1092 = .ok (.iload 4, 2) := dcr dlc_600 7 rfl
theorem dL_law__1094 : decode cL_law_ 1094 = .ok (.bipush 7, 2) := dcr dlc_600 8 rfl
theorem dL_law__1096 : decode cL_law_ 1096 = .ok (.iadd, 1) := dcr dlc_600 9 rfl
theorem dL_law__1097 : decode cL_law_ 1097 = .ok (.iaload, 1) := dcr dlc_600 10 rfl
theorem dL_law__1098 : decode cL_law_ 1098 = .ok (.aload_n 0, 1) := dcr dlc_600 11 rfl
theorem dL_law__1099 : decode cL_law_ 1099 = .ok (.iload 4, 2) := dcr dlc_600 12 rfl
theorem dL_law__1101 : decode cL_law_ 1101 = .ok (.bipush 8, 2) := dcr dlc_600 13 rfl
theorem dL_law__1103 : decode cL_law_ 1103 = .ok (.iadd, 1) := dcr dlc_600 14 rfl
theorem dL_law__1104 : decode cL_law_ 1104 = .ok (.iaload, 1) := dcr dlc_600 15 rfl
theorem dL_law__1105 : decode cL_law_ 1105 = .ok (.invokevirtual 180, 3) := dcr dlc_600 16 rfl
theorem dL_law__1108 : decode cL_law_ 1108 = .ok (.istore 6, 2) := dcr dlc_600 17 rfl
theorem dL_law__1110 : decode cL_law_ 1110 = .ok (.aload_n 2, 1) := dcr dlc_600 18 rfl
theorem dL_law__1111 : decode cL_law_ 1111 = .ok (.invokevirtual 134, 3) := dcr dlc_600 19 rfl
theorem dL_law__1114 : decode cL_law_ 1114 = .ok (.iload 5, 2) := dcr dlc_600 20 rfl
theorem dL_law__1116 : decode cL_law_ 1116 = .ok (.if_icmp .eq 5, 3) := dcr dlc_600 21 rfl
theorem dL_law__1119 : decode cL_law_ 1119 = .ok (.iconst 0, 1) := dcr dlc_600 22 rfl
theorem dL_law__1120 : decode cL_law_ 1120 = .ok (.ireturn, 1) := dcr dlc_600 23 rfl
theorem dL_law__1121 : decode cL_law_ 1121 = .ok (.iload 5, 2) := dcr dlc_600 24 rfl
theorem dL_law__1123 : decode cL_law_ 1123 = .ok (.ifCond .ne 15, 3) := dcr dlc_600 25 rfl
theorem dL_law__1126 : decode cL_law_ 1126 = .ok (.aload_n 3, 1) := dcr dlc_600 26 rfl
theorem dL_law__1127 : decode cL_law_ 1127 = .ok (.iconst 0, 1) := dcr dlc_600 27 rfl
theorem dL_law__1128 : decode cL_law_ 1128 = .ok (.laload, 1) := dcr dlc_600 28 rfl
theorem dL_law__1129 : decode cL_law_ 1129 = .ok (.iload 6, 2) := dcr dlc_600 29 rfl
theorem dL_law__1131 : decode cL_law_ 1131 = .ok (.i2l, 1) := dcr dlc_600 30 rfl
theorem dL_law__1132 : decode cL_law_ 1132 = .ok (.lcmp, 1) := dcr dlc_600 31 rfl
theorem dL_law__1133 : decode cL_law_ 1133 = .ok (.ifCond .eq 5, 3) := dcr dlc_600 32 rfl
theorem dL_law__1136 : decode cL_law_ 1136 = .ok (.iconst 0, 1) := dcr dlc_600 33 rfl
theorem dL_law__1137 : decode cL_law_ 1137 = .ok (.ireturn, 1) := dcr dlc_600 34 rfl
theorem dL_law__1138 : decode cL_law_ 1138 = .ok (.goto 1527, 3) := dcr dlc_600 35 rfl
theorem dL_law__1141 : decode cL_law_ 1141 = .ok (.aload_n 1, 1) := dcr dlc_600 36 rfl
theorem dL_law__1142 : decode cL_law_ 1142 = .ok (.aload_n 0, 1) := dcr dlc_600 37 rfl
theorem dL_law__1143 : decode cL_law_ 1143 = .ok (.iload 4, 2) := dcr dlc_600 38 rfl
theorem dL_law__1145 : decode cL_law_ 1145 = .ok (.iconst 1, 1) := dcr dlc_600 39 rfl
theorem dL_law__1146 : decode cL_law_ 1146 = .ok (.iadd, 1) := dcr dlc_600 40 rfl
theorem dL_law__1147 : decode cL_law_ 1147 = .ok (.iaload, 1) := dcr dlc_600 41 rfl
theorem dL_law__1148 : decode cL_law_ 1148 = .ok (.aload_n 3, 1) := dcr dlc_600 42 rfl
theorem dL_law__1149 : decode cL_law_ 1149 = .ok (.invokestatic 181, 3) := dcr dlc_600 43 rfl
theorem dL_law__1152 : decode cL_law_ 1152 = .ok (.istore 5, 2) := dcr dlc_600 44 rfl
theorem dL_law__1154 : decode cL_law_ 1154 = .ok (.aload_n 2, 1) := dcr dlc_600 45 rfl
theorem dL_law__1155 : decode cL_law_ 1155 = .ok (.aload_n 0, 1) := dcr dlc_600 46 rfl
theorem dL_law__1156 : decode cL_law_ 1156 = .ok (.iload 4, 2) := dcr dlc_600 47 rfl
theorem dL_law__1158 : decode cL_law_ 1158 = .ok (.iconst 1, 1) := dcr dlc_600 48 rfl
theorem dL_law__1159 : decode cL_law_ 1159 = .ok (.iadd, 1) := dcr dlc_600 49 rfl
theorem dL_law__1160 : decode cL_law_ 1160 = .ok (.iaload, 1) := dcr dlc_600 50 rfl
theorem dL_law__1161 : decode cL_law_ 1161 = .ok (.invokevirtual 183, 3) := dcr dlc_600 51 rfl
theorem dL_law__1164 : decode cL_law_ 1164 = .ok (.istore 6, 2) := dcr dlc_600 52 rfl
theorem dL_law__1166 : decode cL_law_ 1166 = .ok (.aload_n 2, 1) := dcr dlc_600 53 rfl
theorem dL_law__1167 : decode cL_law_ 1167 = .ok (.invokevirtual 134, 3) := dcr dlc_600 54 rfl
theorem dL_law__1170 : decode cL_law_ 1170 = .ok (.iload 5, 2) := dcr dlc_600 55 rfl
theorem dL_law__1172 : decode cL_law_ 1172 = .ok (.if_icmp .eq 5, 3) := dcr dlc_600 56 rfl
theorem dL_law__1175 : decode cL_law_ 1175 = .ok (.iconst 0, 1) := dcr dlc_600 57 rfl
theorem dL_law__1176 : decode cL_law_ 1176 = .ok (.ireturn, 1) := dcr dlc_600 58 rfl
theorem dL_law__1177 : decode cL_law_ 1177 = .ok (.iload 5, 2) := dcr dlc_600 59 rfl
def dlb_660 : List (Nat × Instr × Nat) := [(1179, .ifCond .ne 15, 3), (1182, .aload_n 3, 1), (1183, .iconst 0, 1), (1184, .laload, 1), (1185, .iload 6, 2), (1187, .i2l, 1), (1188, .lcmp, 1), (1189, .ifCond .eq 5, 3), (1192, .iconst 0, 1), (1193, .ireturn, 1), (1194, .goto 1471, 3), (1197, .aload_n 1, 1), (1198, .aload_n 0, 1), (1199, .iload 4, 2), (1201, .iconst 1, 1), (1202, .iadd, 1), (1203, .iaload, 1), (1204, .aload_n 0, 1), (1205, .iload 4, 2), (1207, .iconst 2, 1), (1208, .iadd, 1), (1209, .iaload, 1), (1210, .aload_n 3, 1), (1211, .invokestatic 184, 3), (1214, .istore 5, 2), (1216, .aload_n 2, 1), (1217, .aload_n 0, 1), (1218, .iload 4, 2), (1220, .iconst 1, 1), (1221, .iadd, 1), (1222, .iaload, 1), (1223, .aload_n 0, 1), (1224, .iload 4, 2), (1226, .iconst 2, 1), (1227, .iadd, 1), (1228, .iaload, 1), (1229, .invokevirtual 186, 3), (1232, .istore 6, 2), (1234, .aload_n 2, 1), (1235, .invokevirtual 134, 3), (1238, .iload 5, 2), (1240, .if_icmp .eq 5, 3), (1243, .iconst 0, 1), (1244, .ireturn, 1), (1245, .iload 5, 2), (1247, .ifCond .ne 15, 3), (1250, .aload_n 3, 1), (1251, .iconst 0, 1), (1252, .laload, 1), (1253, .iload 6, 2), (1255, .i2l, 1), (1256, .lcmp, 1), (1257, .ifCond .eq 5, 3), (1260, .iconst 0, 1), (1261, .ireturn, 1), (1262, .goto 1403, 3), (1265, .aload_n 1, 1), (1266, .aload_n 0, 1), (1267, .iload 4, 2), (1269, .iconst 1, 1)]
theorem dlc_660 : (dlb_660.all fun q => decide (decode cL_law_ q.1 = .ok q.2)) = true := by decide +kernel
theorem dL_law__1179 : decode cL_law_ 1179 = .ok (.ifCond .ne 15, 3) := dcr dlc_660 0 rfl
theorem dL_law__1182 : decode cL_law_ 1182 = .ok (.aload_n 3, 1) := dcr dlc_660 1 rfl
theorem dL_law__1183 : decode cL_law_ 1183 = .ok (.iconst 0, 1) := dcr dlc_660 2 rfl
theorem dL_law__1184 : decode cL_law_ 1184 = .ok (.laload, 1) := dcr dlc_660 3 rfl
theorem dL_law__1185 : decode cL_law_ 1185 = .ok (.iload 6, 2) := dcr dlc_660 4 rfl
theorem dL_law__1187 : decode cL_law_ 1187 = .ok (.i2l, 1) := dcr dlc_660 5 rfl
theorem dL_law__1188 : decode cL_law_ 1188 = .ok (.lcmp, 1) := dcr dlc_660 6 rfl
theorem dL_law__1189 : decode cL_law_ 1189 = .ok (.ifCond .eq 5, 3) := dcr dlc_660 7 rfl
theorem dL_law__1192 : decode cL_law_ 1192 = .ok (.iconst 0, 1) := dcr dlc_660 8 rfl
theorem dL_law__1193 : decode cL_law_ 1193 = .ok (.ireturn, 1) := dcr dlc_660 9 rfl
theorem dL_law__1194 : decode cL_law_ 1194 = .ok (.goto 1471, 3) := dcr dlc_660 10 rfl
theorem dL_law__1197 : decode cL_law_ 1197 = .ok (.aload_n 1, 1) := dcr dlc_660 11 rfl
theorem dL_law__1198 : decode cL_law_ 1198 = .ok (.aload_n 0, 1) := dcr dlc_660 12 rfl
theorem dL_law__1199 : decode cL_law_ 1199 = .ok (.iload 4, 2) := dcr dlc_660 13 rfl
theorem dL_law__1201 : decode cL_law_ 1201 = .ok (.iconst 1, 1) := dcr dlc_660 14 rfl
theorem dL_law__1202 : decode cL_law_ 1202 = .ok (.iadd, 1) := dcr dlc_660 15 rfl
theorem dL_law__1203 : decode cL_law_ 1203 = .ok (.iaload, 1) := dcr dlc_660 16 rfl
theorem dL_law__1204 : decode cL_law_ 1204 = .ok (.aload_n 0, 1) := dcr dlc_660 17 rfl
theorem dL_law__1205 : decode cL_law_ 1205 = .ok (.iload 4, 2) := dcr dlc_660 18 rfl
theorem dL_law__1207 : decode cL_law_ 1207 = .ok (.iconst 2, 1) := dcr dlc_660 19 rfl
theorem dL_law__1208 : decode cL_law_ 1208 = .ok (.iadd, 1) := dcr dlc_660 20 rfl
theorem dL_law__1209 : decode cL_law_ 1209 = .ok (.iaload, 1) := dcr dlc_660 21 rfl
theorem dL_law__1210 : decode cL_law_ 1210 = .ok (.aload_n 3, 1) := dcr dlc_660 22 rfl
theorem dL_law__1211 : decode cL_law_ 1211 = .ok (.invokestatic 184, 3) := dcr dlc_660 23 rfl
theorem dL_law__1214 : decode cL_law_ 1214 = .ok (.istore 5, 2) := dcr dlc_660 24 rfl
theorem dL_law__1216 : decode cL_law_ 1216 = .ok (.aload_n 2, 1) := dcr dlc_660 25 rfl
theorem dL_law__1217 : decode cL_law_ 1217 = .ok (.aload_n 0, 1) := dcr dlc_660 26 rfl
theorem dL_law__1218 : decode cL_law_ 1218 = .ok (.iload 4, 2) := dcr dlc_660 27 rfl
theorem dL_law__1220 : decode cL_law_ 1220 = .ok (.iconst 1, 1) := dcr dlc_660 28 rfl
theorem dL_law__1221 : decode cL_law_ 1221 = .ok (.iadd, 1) := dcr dlc_660 29 rfl
theorem dL_law__1222 : decode cL_law_ 1222 = .ok (.iaload, 1) := dcr dlc_660 30 rfl
theorem dL_law__1223 : decode cL_law_ 1223 = .ok (.aload_n 0, 1) := dcr dlc_660 31 rfl
theorem dL_law__1224 : decode cL_law_ 1224 = .ok (.iload 4, 2) := dcr dlc_660 32 rfl
theorem dL_law__1226 : decode cL_law_ 1226 = .ok (.iconst 2, 1) := dcr dlc_660 33 rfl
theorem dL_law__1227 : decode cL_law_ 1227 = .ok (.iadd, 1) := dcr dlc_660 34 rfl
theorem dL_law__1228 : decode cL_law_ 1228 = .ok (.iaload, 1) := dcr dlc_660 35 rfl
theorem dL_law__1229 : decode cL_law_ 1229 = .ok (.invokevirtual 186, 3) := dcr dlc_660 36 rfl
theorem dL_law__1232 : decode cL_law_ 1232 = .ok (.istore 6, 2) := dcr dlc_660 37 rfl
theorem dL_law__1234 : decode cL_law_ 1234 = .ok (.aload_n 2, 1) := dcr dlc_660 38 rfl
theorem dL_law__1235 : decode cL_law_ 1235 = .ok (.invokevirtual 134, 3) := dcr dlc_660 39 rfl
theorem dL_law__1238 : decode cL_law_ 1238 = .ok (.iload 5, 2) := dcr dlc_660 40 rfl
theorem dL_law__1240 : decode cL_law_ 1240 = .ok (.if_icmp .eq 5, 3) := dcr dlc_660 41 rfl
theorem dL_law__1243 : decode cL_law_ 1243 = .ok (.iconst 0, 1) := dcr dlc_660 42 rfl
theorem dL_law__1244 : decode cL_law_ 1244 = .ok (.ireturn, 1) := dcr dlc_660 43 rfl
theorem dL_law__1245 : decode cL_law_ 1245 = .ok (.iload 5, 2) := dcr dlc_660 44 rfl
theorem dL_law__1247 : decode cL_law_ 1247 = .ok (.ifCond .ne 15, 3) := dcr dlc_660 45 rfl
theorem dL_law__1250 : decode cL_law_ 1250 = .ok (.aload_n 3, 1) := dcr dlc_660 46 rfl
theorem dL_law__1251 : decode cL_law_ 1251 = .ok (.iconst 0, 1) := dcr dlc_660 47 rfl
theorem dL_law__1252 : decode cL_law_ 1252 = .ok (.laload, 1) := dcr dlc_660 48 rfl
theorem dL_law__1253 : decode cL_law_ 1253 = .ok (.iload 6, 2) := dcr dlc_660 49 rfl
theorem dL_law__1255 : decode cL_law_ 1255 = .ok (.i2l, 1) := dcr dlc_660 50 rfl
theorem dL_law__1256 : decode cL_law_ 1256 = .ok (.lcmp, 1) := dcr dlc_660 51 rfl
theorem dL_law__1257 : decode cL_law_ 1257 = .ok (.ifCond .eq 5, 3) := dcr dlc_660 52 rfl
theorem dL_law__1260 : decode cL_law_ 1260 = .ok (.iconst 0, 1) := dcr dlc_660 53 rfl
theorem dL_law__1261 : decode cL_law_ 1261 = .ok (.ireturn, 1) := dcr dlc_660 54 rfl
theorem dL_law__1262 : decode cL_law_ 1262 = .ok (.goto 1403, 3) := dcr dlc_660 55 rfl
theorem dL_law__1265 : decode cL_law_ 1265 = .ok (.aload_n 1, 1) := dcr dlc_660 56 rfl
theorem dL_law__1266 : decode cL_law_ 1266 = .ok (.aload_n 0, 1) := dcr dlc_660 57 rfl
theorem dL_law__1267 : decode cL_law_ 1267 = .ok (.iload 4, 2) := dcr dlc_660 58 rfl
theorem dL_law__1269 : decode cL_law_ 1269 = .ok (.iconst 1, 1) := dcr dlc_660 59 rfl
def dlb_720 : List (Nat × Instr × Nat) := [(1270, .iadd, 1), (1271, .iaload, 1), (1272, .aload_n 0, 1), (1273, .iload 4, 2), (1275, .iconst 2, 1), (1276, .iadd, 1), (1277, .iaload, 1), (1278, .aload_n 3, 1), (1279, .invokestatic 187, 3), (1282, .istore 5, 2), (1284, .aload_n 2, 1), (1285, .aload_n 0, 1), (1286, .iload 4, 2), (1288, .iconst 1, 1), (1289, .iadd, 1), (1290, .iaload, 1), (1291, .aload_n 0, 1), (1292, .iload 4, 2), (1294, .iconst 2, 1), (1295, .iadd, 1), (1296, .iaload, 1), (1297, .invokevirtual 189, 3), (1300, .istore 6, 2), (1302, .aload_n 2, 1), (1303, .invokevirtual 134, 3), (1306, .iload 5, 2), (1308, .if_icmp .eq 5, 3), (1311, .iconst 0, 1), (1312, .ireturn, 1), (1313, .iload 5, 2), (1315, .ifCond .ne 15, 3), (1318, .aload_n 3, 1), (1319, .iconst 0, 1), (1320, .laload, 1), (1321, .iload 6, 2), (1323, .i2l, 1), (1324, .lcmp, 1), (1325, .ifCond .eq 5, 3), (1328, .iconst 0, 1), (1329, .ireturn, 1), (1330, .goto 1335, 3), (1333, .aload_n 1, 1), (1334, .aload_n 0, 1), (1335, .iload 4, 2), (1337, .iconst 1, 1), (1338, .iadd, 1), (1339, .iaload, 1), (1340, .aload_n 3, 1), (1341, .invokestatic 190, 3), (1344, .istore 5, 2), (1346, .aload_n 2, 1), (1347, .aload_n 0, 1), (1348, .iload 4, 2), (1350, .iconst 1, 1), (1351, .iadd, 1), (1352, .iaload, 1), (1353, .invokevirtual 192, 3), (1356, .istore 6, 2), (1358, .aload_n 2, 1), (1359, .invokevirtual 134, 3)]
theorem dlc_720 : (dlb_720.all fun q => decide (decode cL_law_ q.1 = .ok q.2)) = true := by decide +kernel
theorem dL_law__1270 : decode cL_law_ 1270 = .ok (.iadd, 1) := dcr dlc_720 0 rfl
theorem dL_law__1271 : decode cL_law_ 1271 = .ok (.iaload, 1) := dcr dlc_720 1 rfl
theorem dL_law__1272 : decode cL_law_ 1272 = .ok (.aload_n 0, 1) := dcr dlc_720 2 rfl
theorem dL_law__1273 : decode cL_law_ 1273 = .ok (.iload 4, 2) := dcr dlc_720 3 rfl
theorem dL_law__1275 : decode cL_law_ 1275 = .ok (.iconst 2, 1) := dcr dlc_720 4 rfl
theorem dL_law__1276 : decode cL_law_ 1276 = .ok (.iadd, 1) := dcr dlc_720 5 rfl
theorem dL_law__1277 : decode cL_law_ 1277 = .ok (.iaload, 1) := dcr dlc_720 6 rfl
theorem dL_law__1278 : decode cL_law_ 1278 = .ok (.aload_n 3, 1) := dcr dlc_720 7 rfl
theorem dL_law__1279 : decode cL_law_ 1279 = .ok (.invokestatic 187, 3) := dcr dlc_720 8 rfl
theorem dL_law__1282 : decode cL_law_ 1282 = .ok (.istore 5, 2) := dcr dlc_720 9 rfl
theorem dL_law__1284 : decode cL_law_ 1284 = .ok (.aload_n 2, 1) := dcr dlc_720 10 rfl
theorem dL_law__1285 : decode cL_law_ 1285 = .ok (.aload_n 0, 1) := dcr dlc_720 11 rfl
theorem dL_law__1286 : decode cL_law_ 1286 = .ok (.iload 4, 2) := dcr dlc_720 12 rfl
theorem dL_law__1288 : decode cL_law_ 1288 = .ok (.iconst 1, 1) := dcr dlc_720 13 rfl
theorem dL_law__1289 : decode cL_law_ 1289 = .ok (.iadd, 1) := dcr dlc_720 14 rfl
theorem dL_law__1290 : decode cL_law_ 1290 = .ok (.iaload, 1) := dcr dlc_720 15 rfl
theorem dL_law__1291 : decode cL_law_ 1291 = .ok (.aload_n 0, 1) := dcr dlc_720 16 rfl
theorem dL_law__1292 : decode cL_law_ 1292 = .ok (.iload 4, 2) := dcr dlc_720 17 rfl
theorem dL_law__1294 : decode cL_law_ 1294 = .ok (.iconst 2, 1) := dcr dlc_720 18 rfl
theorem dL_law__1295 : decode cL_law_ 1295 = .ok (.iadd, 1) := dcr dlc_720 19 rfl
theorem dL_law__1296 : decode cL_law_ 1296 = .ok (.iaload, 1) := dcr dlc_720 20 rfl
theorem dL_law__1297 : decode cL_law_ 1297 = .ok (.invokevirtual 189, 3) := dcr dlc_720 21 rfl
theorem dL_law__1300 : decode cL_law_ 1300 = .ok (.istore 6, 2) := dcr dlc_720 22 rfl
theorem dL_law__1302 : decode cL_law_ 1302 = .ok (.aload_n 2, 1) := dcr dlc_720 23 rfl
theorem dL_law__1303 : decode cL_law_ 1303 = .ok (.invokevirtual 134, 3) := dcr dlc_720 24 rfl
theorem dL_law__1306 : decode cL_law_ 1306 = .ok (.iload 5, 2) := dcr dlc_720 25 rfl
theorem dL_law__1308 : decode cL_law_ 1308 = .ok (.if_icmp .eq 5, 3) := dcr dlc_720 26 rfl
theorem dL_law__1311 : decode cL_law_ 1311 = .ok (.iconst 0, 1) := dcr dlc_720 27 rfl
theorem dL_law__1312 : decode cL_law_ 1312 = .ok (.ireturn, 1) := dcr dlc_720 28 rfl
theorem dL_law__1313 : decode cL_law_ 1313 = .ok (.iload 5, 2) := dcr dlc_720 29 rfl
theorem dL_law__1315 : decode cL_law_ 1315 = .ok (.ifCond .ne 15, 3) := dcr dlc_720 30 rfl
theorem dL_law__1318 : decode cL_law_ 1318 = .ok (.aload_n 3, 1) := dcr dlc_720 31 rfl
theorem dL_law__1319 : decode cL_law_ 1319 = .ok (.iconst 0, 1) := dcr dlc_720 32 rfl
theorem dL_law__1320 : decode cL_law_ 1320 = .ok (.laload, 1) := dcr dlc_720 33 rfl
theorem dL_law__1321 : decode cL_law_ 1321 = .ok (.iload 6, 2) := dcr dlc_720 34 rfl
theorem dL_law__1323 : decode cL_law_ 1323 = .ok (.i2l, 1) := dcr dlc_720 35 rfl
theorem dL_law__1324 : decode cL_law_ 1324 = .ok (.lcmp, 1) := dcr dlc_720 36 rfl
theorem dL_law__1325 : decode cL_law_ 1325 = .ok (.ifCond .eq 5, 3) := dcr dlc_720 37 rfl
theorem dL_law__1328 : decode cL_law_ 1328 = .ok (.iconst 0, 1) := dcr dlc_720 38 rfl
theorem dL_law__1329 : decode cL_law_ 1329 = .ok (.ireturn, 1) := dcr dlc_720 39 rfl
theorem dL_law__1330 : decode cL_law_ 1330 = .ok (.goto 1335, 3) := dcr dlc_720 40 rfl
theorem dL_law__1333 : decode cL_law_ 1333 = .ok (.aload_n 1, 1) := dcr dlc_720 41 rfl
theorem dL_law__1334 : decode cL_law_ 1334 = .ok (.aload_n 0, 1) := dcr dlc_720 42 rfl
theorem dL_law__1335 : decode cL_law_ 1335 = .ok (.iload 4, 2) := dcr dlc_720 43 rfl
theorem dL_law__1337 : decode cL_law_ 1337 = .ok (.iconst 1, 1) := dcr dlc_720 44 rfl
theorem dL_law__1338 : decode cL_law_ 1338 = .ok (.iadd, 1) := dcr dlc_720 45 rfl
theorem dL_law__1339 : decode cL_law_ 1339 = .ok (.iaload, 1) := dcr dlc_720 46 rfl
theorem dL_law__1340 : decode cL_law_ 1340 = .ok (.aload_n 3, 1) := dcr dlc_720 47 rfl
theorem dL_law__1341 : decode cL_law_ 1341 = .ok (.invokestatic 190, 3) := dcr dlc_720 48 rfl
theorem dL_law__1344 : decode cL_law_ 1344 = .ok (.istore 5, 2) := dcr dlc_720 49 rfl
theorem dL_law__1346 : decode cL_law_ 1346 = .ok (.aload_n 2, 1) := dcr dlc_720 50 rfl
theorem dL_law__1347 : decode cL_law_ 1347 = .ok (.aload_n 0, 1) := dcr dlc_720 51 rfl
theorem dL_law__1348 : decode cL_law_ 1348 = .ok (.iload 4, 2) := dcr dlc_720 52 rfl
theorem dL_law__1350 : decode cL_law_ 1350 = .ok (.iconst 1, 1) := dcr dlc_720 53 rfl
theorem dL_law__1351 : decode cL_law_ 1351 = .ok (.iadd, 1) := dcr dlc_720 54 rfl
theorem dL_law__1352 : decode cL_law_ 1352 = .ok (.iaload, 1) := dcr dlc_720 55 rfl
theorem dL_law__1353 : decode cL_law_ 1353 = .ok (.invokevirtual 192, 3) := dcr dlc_720 56 rfl
theorem dL_law__1356 : decode cL_law_ 1356 = .ok (.istore 6, 2) := dcr dlc_720 57 rfl
theorem dL_law__1358 : decode cL_law_ 1358 = .ok (.aload_n 2, 1) := dcr dlc_720 58 rfl
theorem dL_law__1359 : decode cL_law_ 1359 = .ok (.invokevirtual 134, 3) := dcr dlc_720 59 rfl
def dlb_780 : List (Nat × Instr × Nat) := [(1362, .iload 5, 2), (1364, .if_icmp .eq 5, 3), (1367, .iconst 0, 1), (1368, .ireturn, 1), (1369, .iload 5, 2), (1371, .ifCond .ne 15, 3), (1374, .aload_n 3, 1), (1375, .iconst 0, 1), (1376, .laload, 1), (1377, .iload 6, 2), (1379, .i2l, 1), (1380, .lcmp, 1), (1381, .ifCond .eq 5, 3), (1384, .iconst 0, 1), (1385, .ireturn, 1), (1386, .goto 1279, 3), (1389, .aload_n 1, 1), (1390, .aload_n 0, 1), (1391, .iload 4, 2), (1393, .iconst 1, 1), (1394, .iadd, 1), (1395, .iaload, 1), (1396, .aload_n 0, 1), (1397, .iload 4, 2), (1399, .iconst 2, 1), (1400, .iadd, 1), (1401, .iaload, 1), (1402, .aload_n 3, 1), (1403, .invokestatic 193, 3), (1406, .istore 5, 2), (1408, .aload_n 2, 1), (1409, .aload_n 0, 1), (1410, .iload 4, 2), (1412, .iconst 1, 1), (1413, .iadd, 1), (1414, .iaload, 1), (1415, .aload_n 0, 1), (1416, .iload 4, 2), (1418, .iconst 2, 1), (1419, .iadd, 1), (1420, .iaload, 1), (1421, .invokevirtual 195, 3), (1424, .istore 6, 2), (1426, .aload_n 2, 1), (1427, .invokevirtual 134, 3), (1430, .iload 5, 2), (1432, .if_icmp .eq 5, 3), (1435, .iconst 0, 1), (1436, .ireturn, 1), (1437, .iload 5, 2), (1439, .ifCond .ne 15, 3), (1442, .aload_n 3, 1), (1443, .iconst 0, 1), (1444, .laload, 1), (1445, .iload 6, 2), (1447, .i2l, 1), (1448, .lcmp, 1), (1449, .ifCond .eq 5, 3), (1452, .iconst 0, 1), (1453, .ireturn, 1)]
theorem dlc_780 : (dlb_780.all fun q => decide (decode cL_law_ q.1 = .ok q.2)) = true := by decide +kernel
theorem dL_law__1362 : decode cL_law_ 1362 = .ok (.iload 5, 2) := dcr dlc_780 0 rfl
theorem dL_law__1364 : decode cL_law_ 1364 = .ok (.if_icmp .eq 5, 3) := dcr dlc_780 1 rfl
theorem dL_law__1367 : decode cL_law_ 1367 = .ok (.iconst 0, 1) := dcr dlc_780 2 rfl
theorem dL_law__1368 : decode cL_law_ 1368 = .ok (.ireturn, 1) := dcr dlc_780 3 rfl
theorem dL_law__1369 : decode cL_law_ 1369 = .ok (.iload 5, 2) := dcr dlc_780 4 rfl
theorem dL_law__1371 : decode cL_law_ 1371 = .ok (.ifCond .ne 15, 3) := dcr dlc_780 5 rfl
theorem dL_law__1374 : decode cL_law_ 1374 = .ok (.aload_n 3, 1) := dcr dlc_780 6 rfl
theorem dL_law__1375 : decode cL_law_ 1375 = .ok (.iconst 0, 1) := dcr dlc_780 7 rfl
theorem dL_law__1376 : decode cL_law_ 1376 = .ok (.laload, 1) := dcr dlc_780 8 rfl
theorem dL_law__1377 : decode cL_law_ 1377 = .ok (.iload 6, 2) := dcr dlc_780 9 rfl
theorem dL_law__1379 : decode cL_law_ 1379 = .ok (.i2l, 1) := dcr dlc_780 10 rfl
theorem dL_law__1380 : decode cL_law_ 1380 = .ok (.lcmp, 1) := dcr dlc_780 11 rfl
theorem dL_law__1381 : decode cL_law_ 1381 = .ok (.ifCond .eq 5, 3) := dcr dlc_780 12 rfl
theorem dL_law__1384 : decode cL_law_ 1384 = .ok (.iconst 0, 1) := dcr dlc_780 13 rfl
theorem dL_law__1385 : decode cL_law_ 1385 = .ok (.ireturn, 1) := dcr dlc_780 14 rfl
theorem dL_law__1386 : decode cL_law_ 1386 = .ok (.goto 1279, 3) := dcr dlc_780 15 rfl
theorem dL_law__1389 : decode cL_law_ 1389 = .ok (.aload_n 1, 1) := dcr dlc_780 16 rfl
theorem dL_law__1390 : decode cL_law_ 1390 = .ok (.aload_n 0, 1) := dcr dlc_780 17 rfl
theorem dL_law__1391 : decode cL_law_ 1391 = .ok (.iload 4, 2) := dcr dlc_780 18 rfl
theorem dL_law__1393 : decode cL_law_ 1393 = .ok (.iconst 1, 1) := dcr dlc_780 19 rfl
theorem dL_law__1394 : decode cL_law_ 1394 = .ok (.iadd, 1) := dcr dlc_780 20 rfl
theorem dL_law__1395 : decode cL_law_ 1395 = .ok (.iaload, 1) := dcr dlc_780 21 rfl
theorem dL_law__1396 : decode cL_law_ 1396 = .ok (.aload_n 0, 1) := dcr dlc_780 22 rfl
theorem dL_law__1397 : decode cL_law_ 1397 = .ok (.iload 4, 2) := dcr dlc_780 23 rfl
theorem dL_law__1399 : decode cL_law_ 1399 = .ok (.iconst 2, 1) := dcr dlc_780 24 rfl
theorem dL_law__1400 : decode cL_law_ 1400 = .ok (.iadd, 1) := dcr dlc_780 25 rfl
theorem dL_law__1401 : decode cL_law_ 1401 = .ok (.iaload, 1) := dcr dlc_780 26 rfl
theorem dL_law__1402 : decode cL_law_ 1402 = .ok (.aload_n 3, 1) := dcr dlc_780 27 rfl
theorem dL_law__1403 : decode cL_law_ 1403 = .ok (.invokestatic 193, 3) := dcr dlc_780 28 rfl
theorem dL_law__1406 : decode cL_law_ 1406 = .ok (.istore 5, 2) := dcr dlc_780 29 rfl
theorem dL_law__1408 : decode cL_law_ 1408 = .ok (.aload_n 2, 1) := dcr dlc_780 30 rfl
theorem dL_law__1409 : decode cL_law_ 1409 = .ok (.aload_n 0, 1) := dcr dlc_780 31 rfl
theorem dL_law__1410 : decode cL_law_ 1410 = .ok (.iload 4, 2) := dcr dlc_780 32 rfl
theorem dL_law__1412 : decode cL_law_ 1412 = .ok (.iconst 1, 1) := dcr dlc_780 33 rfl
theorem dL_law__1413 : decode cL_law_ 1413 = .ok (.iadd, 1) := dcr dlc_780 34 rfl
theorem dL_law__1414 : decode cL_law_ 1414 = .ok (.iaload, 1) := dcr dlc_780 35 rfl
theorem dL_law__1415 : decode cL_law_ 1415 = .ok (.aload_n 0, 1) := dcr dlc_780 36 rfl
theorem dL_law__1416 : decode cL_law_ 1416 = .ok (.iload 4, 2) := dcr dlc_780 37 rfl
theorem dL_law__1418 : decode cL_law_ 1418 = .ok (.iconst 2, 1) := dcr dlc_780 38 rfl
theorem dL_law__1419 : decode cL_law_ 1419 = .ok (.iadd, 1) := dcr dlc_780 39 rfl
theorem dL_law__1420 : decode cL_law_ 1420 = .ok (.iaload, 1) := dcr dlc_780 40 rfl
theorem dL_law__1421 : decode cL_law_ 1421 = .ok (.invokevirtual 195, 3) := dcr dlc_780 41 rfl
theorem dL_law__1424 : decode cL_law_ 1424 = .ok (.istore 6, 2) := dcr dlc_780 42 rfl
theorem dL_law__1426 : decode cL_law_ 1426 = .ok (.aload_n 2, 1) := dcr dlc_780 43 rfl
theorem dL_law__1427 : decode cL_law_ 1427 = .ok (.invokevirtual 134, 3) := dcr dlc_780 44 rfl
theorem dL_law__1430 : decode cL_law_ 1430 = .ok (.iload 5, 2) := dcr dlc_780 45 rfl
theorem dL_law__1432 : decode cL_law_ 1432 = .ok (.if_icmp .eq 5, 3) := dcr dlc_780 46 rfl
theorem dL_law__1435 : decode cL_law_ 1435 = .ok (.iconst 0, 1) := dcr dlc_780 47 rfl
theorem dL_law__1436 : decode cL_law_ 1436 = .ok (.ireturn, 1) := dcr dlc_780 48 rfl
theorem dL_law__1437 : decode cL_law_ 1437 = .ok (.iload 5, 2) := dcr dlc_780 49 rfl
theorem dL_law__1439 : decode cL_law_ 1439 = .ok (.ifCond .ne 15, 3) := dcr dlc_780 50 rfl
theorem dL_law__1442 : decode cL_law_ 1442 = .ok (.aload_n 3, 1) := dcr dlc_780 51 rfl
theorem dL_law__1443 : decode cL_law_ 1443 = .ok (.iconst 0, 1) := dcr dlc_780 52 rfl
theorem dL_law__1444 : decode cL_law_ 1444 = .ok (.laload, 1) := dcr dlc_780 53 rfl
theorem dL_law__1445 : decode cL_law_ 1445 = .ok (.iload 6, 2) := dcr dlc_780 54 rfl
theorem dL_law__1447 : decode cL_law_ 1447 = .ok (.i2l, 1) := dcr dlc_780 55 rfl
theorem dL_law__1448 : decode cL_law_ 1448 = .ok (.lcmp, 1) := dcr dlc_780 56 rfl
theorem dL_law__1449 : decode cL_law_ 1449 = .ok (.ifCond .eq 5, 3) := dcr dlc_780 57 rfl
theorem dL_law__1452 : decode cL_law_ 1452 = .ok (.iconst 0, 1) := dcr dlc_780 58 rfl
theorem dL_law__1453 : decode cL_law_ 1453 = .ok (.ireturn, 1) := dcr dlc_780 59 rfl
