theorem dX0_clear_0 : decode cX0_clear 0 = .ok (.aload_n 0, 1) := by decide +kernel
theorem dX0_clear_1 : decode cX0_clear 1 = .ok (.iconst 0, 1) := by decide +kernel
theorem dX0_clear_2 : decode cX0_clear 2 = .ok (.putfield 24, 3) := by decide +kernel
theorem dX0_clear_5 : decode cX0_clear 5 = .ok (.return_, 1) := by decide +kernel
theorem dX0_add_0 : decode cX0_add 0 = .ok (.iload_n 1, 1) := by decide +kernel
theorem dX0_add_1 : decode cX0_add 1 = .ok (.bipush 10, 2) := by decide +kernel
theorem dX0_add_3 : decode cX0_add 3 = .ok (.idiv, 1) := by decide +kernel
theorem dX0_add_4 : decode cX0_add 4 = .ok (.istore_n 2, 1) := by decide +kernel
theorem dX0_add_5 : decode cX0_add 5 = .ok (.iload_n 1, 1) := by decide +kernel
theorem dX0_add_6 : decode cX0_add 6 = .ok (.bipush 10, 2) := by decide +kernel
theorem dX0_add_8 : decode cX0_add 8 = .ok (.irem, 1) := by decide +kernel
theorem dX0_add_9 : decode cX0_add 9 = .ok (.istore_n 3, 1) := by decide +kernel
theorem dX0_add_10 : decode cX0_add 10 = .ok (.iload_n 2, 1) := by decide +kernel
theorem dX0_add_11 : decode cX0_add 11 = .ok (.iload_n 3, 1) := by decide +kernel
theorem dX0_add_12 : decode cX0_add 12 = .ok (.invokestatic 34, 3) := by decide +kernel
theorem dX0_add_15 : decode cX0_add 15 = .ok (.ifCond .eq 11, 3) := by decide +kernel
theorem dX0_add_18 : decode cX0_add 18 = .ok (.aload_n 0, 1) := by decide +kernel
theorem dX0_add_19 : decode cX0_add 19 = .ok (.getfield 24, 3) := by decide +kernel
theorem dX0_add_22 : decode cX0_add 22 = .ok (.iconst 4, 1) := by decide +kernel
theorem dX0_add_23 : decode cX0_add 23 = .ok (.if_icmp .lt 5, 3) := by decide +kernel
theorem dX0_add_26 : decode cX0_add 26 = .ok (.iconst 0, 1) := by decide +kernel
theorem dX0_add_27 : decode cX0_add 27 = .ok (.ireturn, 1) := by decide +kernel
theorem dX0_add_28 : decode cX0_add 28 = .ok (.aload_n 0, 1) := by decide +kernel
theorem dX0_add_29 : decode cX0_add 29 = .ok (.getfield 9, 3) := by decide +kernel
theorem dX0_add_32 : decode cX0_add 32 = .ok (.aload_n 0, 1) := by decide +kernel
theorem dX0_add_33 : decode cX0_add 33 = .ok (.getfield 24, 3) := by decide +kernel
theorem dX0_add_36 : decode cX0_add 36 = .ok (.iload_n 2, 1) := by decide +kernel
theorem dX0_add_37 : decode cX0_add 37 = .ok (.iastore, 1) := by decide +kernel
theorem dX0_add_38 : decode cX0_add 38 = .ok (.aload_n 0, 1) := by decide +kernel
theorem dX0_add_39 : decode cX0_add 39 = .ok (.getfield 13, 3) := by decide +kernel
theorem dX0_add_42 : decode cX0_add 42 = .ok (.aload_n 0, 1) := by decide +kernel
theorem dX0_add_43 : decode cX0_add 43 = .ok (.getfield 24, 3) := by decide +kernel
theorem dX0_add_46 : decode cX0_add 46 = .ok (.iload_n 3, 1) := by decide +kernel
theorem dX0_add_47 : decode cX0_add 47 = .ok (.iastore, 1) := by decide +kernel
theorem dX0_add_48 : decode cX0_add 48 = .ok (.aload_n 0, 1) := by decide +kernel
theorem dX0_add_49 : decode cX0_add 49 = .ok (.dup, 1) := by decide +kernel
theorem dX0_add_50 : decode cX0_add 50 = .ok (.getfield 24, 3) := by decide +kernel
theorem dX0_add_53 : decode cX0_add 53 = .ok (.iconst 1, 1) := by decide +kernel
theorem dX0_add_54 : decode cX0_add 54 = .ok (.iadd, 1) := by decide +kernel
theorem dX0_add_55 : decode cX0_add 55 = .ok (.putfield 24, 3) := by decide +kernel
theorem dX0_add_58 : decode cX0_add 58 = .ok (.iconst 1, 1) := by decide +kernel
theorem dX0_add_59 : decode cX0_add 59 = .ok (.ireturn, 1) := by decide +kernel
theorem dX0_leastLength_0 : decode cX0_leastLength 0 = .ok (.aload_n 0, 1) := by decide +kernel
theorem dX0_leastLength_1 : decode cX0_leastLength 1 = .ok (.iconst 0, 1) := by decide +kernel
theorem dX0_leastLength_2 : decode cX0_leastLength 2 = .ok (.putfield 28, 3) := by decide +kernel
theorem dX0_leastLength_5 : decode cX0_leastLength 5 = .ok (.aload_n 0, 1) := by decide +kernel
theorem dX0_leastLength_6 : decode cX0_leastLength 6 = .ok (.iconst 0, 1) := by decide +kernel
theorem dX0_leastLength_7 : decode cX0_leastLength 7 = .ok (.putfield 31, 3) := by decide +kernel
theorem dX0_leastLength_10 : decode cX0_leastLength 10 = .ok (.iconst 0, 1) := by decide +kernel
theorem dX0_leastLength_11 : decode cX0_leastLength 11 = .ok (.istore_n 1, 1) := by decide +kernel
theorem dX0_leastLength_12 : decode cX0_leastLength 12 = .ok (.iconst 0, 1) := by decide +kernel
theorem dX0_leastLength_13 : decode cX0_leastLength 13 = .ok (.istore_n 2, 1) := by decide +kernel
theorem dX0_leastLength_14 : decode cX0_leastLength 14 = .ok (.iload_n 2, 1) := by decide +kernel
theorem dX0_leastLength_15 : decode cX0_leastLength 15 = .ok (.aload_n 0, 1) := by decide +kernel
theorem dX0_leastLength_16 : decode cX0_leastLength 16 = .ok (.getfield 24, 3) := by decide +kernel
theorem dX0_leastLength_19 : decode cX0_leastLength 19 = .ok (.if_icmp .ge 68, 3) := by decide +kernel
theorem dX0_leastLength_22 : decode cX0_leastLength 22 = .ok (.aload_n 0, 1) := by decide +kernel
theorem dX0_leastLength_23 : decode cX0_leastLength 23 = .ok (.dup, 1) := by decide +kernel
theorem dX0_leastLength_24 : decode cX0_leastLength 24 = .ok (.getfield 28, 3) := by decide +kernel
theorem dX0_leastLength_27 : decode cX0_leastLength 27 = .ok (.aload_n 0, 1) := by decide +kernel
theorem dX0_leastLength_28 : decode cX0_leastLength 28 = .ok (.getfield 13, 3) := by decide +kernel
theorem dX0_leastLength_31 : decode cX0_leastLength 31 = .ok (.iload_n 2, 1) := by decide +kernel
theorem dX0_leastLength_32 : decode cX0_leastLength 32 = .ok (.iaload, 1) := by decide +kernel
theorem dX0_leastLength_33 : decode cX0_leastLength 33 = .ok (.iadd, 1) := by decide +kernel
theorem dX0_leastLength_34 : decode cX0_leastLength 34 = .ok (.putfield 28, 3) := by decide +kernel
theorem dX0_leastLength_37 : decode cX0_leastLength 37 = .ok (.aload_n 0, 1) := by decide +kernel
theorem dX0_leastLength_38 : decode cX0_leastLength 38 = .ok (.aload_n 0, 1) := by decide +kernel
theorem dX0_leastLength_39 : decode cX0_leastLength 39 = .ok (.getfield 31, 3) := by decide +kernel
theorem dX0_leastLength_42 : decode cX0_leastLength 42 = .ok (.aload_n 0, 1) := by decide +kernel
theorem dX0_leastLength_43 : decode cX0_leastLength 43 = .ok (.getfield 13, 3) := by decide +kernel
theorem dX0_leastLength_46 : decode cX0_leastLength 46 = .ok (.iload_n 2, 1) := by decide +kernel
theorem dX0_leastLength_47 : decode cX0_leastLength 47 = .ok (.iaload, 1) := by decide +kernel
theorem dX0_leastLength_48 : decode cX0_leastLength 48 = .ok (.invokestatic 40, 3) := by decide +kernel
theorem dX0_leastLength_51 : decode cX0_leastLength 51 = .ok (.putfield 31, 3) := by decide +kernel
theorem dX0_leastLength_54 : decode cX0_leastLength 54 = .ok (.iload_n 1, 1) := by decide +kernel
theorem dX0_leastLength_55 : decode cX0_leastLength 55 = .ok (.aload_n 0, 1) := by decide +kernel
theorem dX0_leastLength_56 : decode cX0_leastLength 56 = .ok (.getfield 9, 3) := by decide +kernel
theorem dX0_leastLength_59 : decode cX0_leastLength 59 = .ok (.iload_n 2, 1) := by decide +kernel
theorem dX0_leastLength_60 : decode cX0_leastLength 60 = .ok (.iaload, 1) := by decide +kernel
theorem dX0_leastLength_61 : decode cX0_leastLength 61 = .ok (.aload_n 0, 1) := by decide +kernel
theorem dX0_leastLength_62 : decode cX0_leastLength 62 = .ok (.getfield 13, 3) := by decide +kernel
theorem dX0_leastLength_65 : decode cX0_leastLength 65 = .ok (.iload_n 2, 1) := by decide +kernel
theorem dX0_leastLength_66 : decode cX0_leastLength 66 = .ok (.iaload, 1) := by decide +kernel
theorem dX0_leastLength_67 : decode cX0_leastLength 67 = .ok (.imul, 1) := by decide +kernel
theorem dX0_leastLength_68 : decode cX0_leastLength 68 = .ok (.iadd, 1) := by decide +kernel
theorem dX0_leastLength_69 : decode cX0_leastLength 69 = .ok (.istore_n 1, 1) := by decide +kernel
theorem dX0_leastLength_70 : decode cX0_leastLength 70 = .ok (.aload_n 0, 1) := by decide +kernel
theorem dX0_leastLength_71 : decode cX0_leastLength 71 = .ok (.getfield 16, 3) := by decide +kernel
theorem dX0_leastLength_74 : decode cX0_leastLength 74 = .ok (.iload_n 2, 1) := by decide +kernel
theorem dX0_leastLength_75 : decode cX0_leastLength 75 = .ok (.aload_n 0, 1) := by decide +kernel
theorem dX0_leastLength_76 : decode cX0_leastLength 76 = .ok (.iload_n 2, 1) := by decide +kernel
theorem dX0_leastLength_77 : decode cX0_leastLength 77 = .ok (.invokevirtual 46, 3) := by decide +kernel
theorem dX0_leastLength_80 : decode cX0_leastLength 80 = .ok (.iastore, 1) := by decide +kernel
theorem dX0_leastLength_81 : decode cX0_leastLength 81 = .ok (.iinc 2 1, 3) := by decide +kernel
theorem dX0_leastLength_84 : decode cX0_leastLength 84 = .ok (.goto (-70), 3) := by decide +kernel
theorem dX0_leastLength_87 : decode cX0_leastLength 87 = .ok (.aload_n 0, 1) := by decide +kernel
theorem dX0_leastLength_88 : decode cX0_leastLength 88 = .ok (.aload_n 0, 1) := by decide +kernel
theorem dX0_leastLength_89 : decode cX0_leastLength 89 = .ok (.getfield 31, 3) := by decide +kernel
theorem dX0_leastLength_92 : decode cX0_leastLength 92 = .ok (.iload_n 1, 1) := by decide +kernel
theorem dX0_leastLength_93 : decode cX0_leastLength 93 = .ok (.bipush 8, 2) := by decide +kernel
theorem dX0_leastLength_95 : decode cX0_leastLength 95 = .ok (.iadd, 1) := by decide +kernel
theorem dX0_leastLength_96 : decode cX0_leastLength 96 = .ok (.iconst 1, 1) := by decide +kernel
theorem dX0_leastLength_97 : decode cX0_leastLength 97 = .ok (.isub, 1) := by decide +kernel
theorem dX0_leastLength_98 : decode cX0_leastLength 98 = .ok (.bipush 8, 2) := by decide +kernel
theorem dX0_leastLength_100 : decode cX0_leastLength 100 = .ok (.idiv, 1) := by decide +kernel
theorem dX0_leastLength_101 : decode cX0_leastLength 101 = .ok (.invokestatic 40, 3) := by decide +kernel
theorem dX0_leastLength_104 : decode cX0_leastLength 104 = .ok (.putfield 31, 3) := by decide +kernel
theorem dX0_leastLength_107 : decode cX0_leastLength 107 = .ok (.aload_n 0, 1) := by decide +kernel
theorem dX0_leastLength_108 : decode cX0_leastLength 108 = .ok (.getfield 21, 3) := by decide +kernel
theorem dX0_leastLength_111 : decode cX0_leastLength 111 = .ok (.iconst 0, 1) := by decide +kernel
theorem dX0_leastLength_112 : decode cX0_leastLength 112 = .ok (.aaload, 1) := by decide +kernel
theorem dX0_leastLength_113 : decode cX0_leastLength 113 = .ok (.iconst 0, 1) := by decide +kernel
theorem dX0_leastLength_114 : decode cX0_leastLength 114 = .ok (.invokestatic 50, 3) := by decide +kernel
theorem dX0_leastLength_117 : decode cX0_leastLength 117 = .ok (.aload_n 0, 1) := by decide +kernel
theorem dX0_leastLength_118 : decode cX0_leastLength 118 = .ok (.iconst 0, 1) := by decide +kernel
theorem dX0_leastLength_119 : decode cX0_leastLength 119 = .ok (.iconst 0, 1) := by decide +kernel
theorem dX0_leastLength_120 : decode cX0_leastLength 120 = .ok (.iconst 0, 1) := by decide +kernel
theorem dX0_leastLength_121 : decode cX0_leastLength 121 = .ok (.invokevirtual 56, 3) := by decide +kernel
theorem dX0_leastLength_124 : decode cX0_leastLength 124 = .ok (.aload_n 0, 1) := by decide +kernel
theorem dX0_leastLength_125 : decode cX0_leastLength 125 = .ok (.getfield 28, 3) := by decide +kernel
theorem dX0_leastLength_128 : decode cX0_leastLength 128 = .ok (.ireturn, 1) := by decide +kernel
theorem dX0_placesFor_0 : decode cX0_placesFor 0 = .ok (.iconst 1, 1) := by decide +kernel
theorem dX0_placesFor_1 : decode cX0_placesFor 1 = .ok (.istore_n 2, 1) := by decide +kernel
theorem dX0_placesFor_2 : decode cX0_placesFor 2 = .ok (.iconst 0, 1) := by decide +kernel
theorem dX0_placesFor_3 : decode cX0_placesFor 3 = .ok (.istore_n 3, 1) := by decide +kernel
theorem dX0_placesFor_4 : decode cX0_placesFor 4 = .ok (.iload_n 3, 1) := by decide +kernel
theorem dX0_placesFor_5 : decode cX0_placesFor 5 = .ok (.aload_n 0, 1) := by decide +kernel
theorem dX0_placesFor_6 : decode cX0_placesFor 6 = .ok (.getfield 24, 3) := by decide +kernel
theorem dX0_placesFor_9 : decode cX0_placesFor 9 = .ok (.if_icmp .ge 25, 3) := by decide +kernel
theorem dX0_placesFor_12 : decode cX0_placesFor 12 = .ok (.iload_n 3, 1) := by decide +kernel
theorem dX0_placesFor_13 : decode cX0_placesFor 13 = .ok (.iload_n 1, 1) := by decide +kernel
theorem dX0_placesFor_14 : decode cX0_placesFor 14 = .ok (.if_icmp .eq 14, 3) := by decide +kernel
theorem dX0_placesFor_17 : decode cX0_placesFor 17 = .ok (.iload_n 2, 1) := by decide +kernel
theorem dX0_placesFor_18 : decode cX0_placesFor 18 = .ok (.iload_n 2, 1) := by decide +kernel
theorem dX0_placesFor_19 : decode cX0_placesFor 19 = .ok (.aload_n 0, 1) := by decide +kernel
theorem dX0_placesFor_20 : decode cX0_placesFor 20 = .ok (.getfield 9, 3) := by decide +kernel
theorem dX0_placesFor_23 : decode cX0_placesFor 23 = .ok (.iload_n 3, 1) := by decide +kernel
theorem dX0_placesFor_24 : decode cX0_placesFor 24 = .ok (.iaload, 1) := by decide +kernel
theorem dX0_placesFor_25 : decode cX0_placesFor 25 = .ok (.ishl, 1) := by decide +kernel
theorem dX0_placesFor_26 : decode cX0_placesFor 26 = .ok (.ior, 1) := by decide +kernel
theorem dX0_placesFor_27 : decode cX0_placesFor 27 = .ok (.istore_n 2, 1) := by decide +kernel
theorem dX0_placesFor_28 : decode cX0_placesFor 28 = .ok (.iinc 3 1, 3) := by decide +kernel
theorem dX0_placesFor_31 : decode cX0_placesFor 31 = .ok (.goto (-27), 3) := by decide +kernel
theorem dX0_placesFor_34 : decode cX0_placesFor 34 = .ok (.iload_n 2, 1) := by decide +kernel
theorem dX0_placesFor_35 : decode cX0_placesFor 35 = .ok (.iconst 1, 1) := by decide +kernel
theorem dX0_placesFor_36 : decode cX0_placesFor 36 = .ok (.bipush 8, 2) := by decide +kernel
theorem dX0_placesFor_38 : decode cX0_placesFor 38 = .ok (.aload_n 0, 1) := by decide +kernel
theorem dX0_placesFor_39 : decode cX0_placesFor 39 = .ok (.getfield 9, 3) := by decide +kernel
theorem dX0_placesFor_42 : decode cX0_placesFor 42 = .ok (.iload_n 1, 1) := by decide +kernel
theorem dX0_placesFor_43 : decode cX0_placesFor 43 = .ok (.iaload, 1) := by decide +kernel
theorem dX0_placesFor_44 : decode cX0_placesFor 44 = .ok (.isub, 1) := by decide +kernel
theorem dX0_placesFor_45 : decode cX0_placesFor 45 = .ok (.iconst 1, 1) := by decide +kernel
theorem dX0_placesFor_46 : decode cX0_placesFor 46 = .ok (.iadd, 1) := by decide +kernel
theorem dX0_placesFor_47 : decode cX0_placesFor 47 = .ok (.ishl, 1) := by decide +kernel
theorem dX0_placesFor_48 : decode cX0_placesFor 48 = .ok (.iconst 1, 1) := by decide +kernel
theorem dX0_placesFor_49 : decode cX0_placesFor 49 = .ok (.isub, 1) := by decide +kernel
theorem dX0_placesFor_50 : decode cX0_placesFor 50 = .ok (.iand, 1) := by decide +kernel
theorem dX0_placesFor_51 : decode cX0_placesFor 51 = .ok (.ireturn, 1) := by decide +kernel
theorem dX0_layNext_0 : decode cX0_layNext 0 = .ok (.iload_n 1, 1) := by decide +kernel
theorem dX0_layNext_1 : decode cX0_layNext 1 = .ok (.aload_n 0, 1) := by decide +kernel
theorem dX0_layNext_2 : decode cX0_layNext 2 = .ok (.getfield 24, 3) := by decide +kernel
theorem dX0_layNext_5 : decode cX0_layNext 5 = .ok (.if_icmp .lt 16, 3) := by decide +kernel
theorem dX0_layNext_8 : decode cX0_layNext 8 = .ok (.aload_n 0, 1) := by decide +kernel
theorem dX0_layNext_9 : decode cX0_layNext 9 = .ok (.aload_n 0, 1) := by decide +kernel
theorem dX0_layNext_10 : decode cX0_layNext 10 = .ok (.getfield 28, 3) := by decide +kernel
theorem dX0_layNext_13 : decode cX0_layNext 13 = .ok (.iload_n 3, 1) := by decide +kernel
theorem dX0_layNext_14 : decode cX0_layNext 14 = .ok (.invokestatic 60, 3) := by decide +kernel
theorem dX0_layNext_17 : decode cX0_layNext 17 = .ok (.putfield 28, 3) := by decide +kernel
theorem dX0_layNext_20 : decode cX0_layNext 20 = .ok (.return_, 1) := by decide +kernel
theorem dX0_layNext_21 : decode cX0_layNext 21 = .ok (.iconst 0, 1) := by decide +kernel
theorem dX0_layNext_22 : decode cX0_layNext 22 = .ok (.istore 4, 2) := by decide +kernel
theorem dX0_layNext_24 : decode cX0_layNext 24 = .ok (.iload 4, 2) := by decide +kernel
theorem dX0_layNext_26 : decode cX0_layNext 26 = .ok (.aload_n 0, 1) := by decide +kernel
theorem dX0_layNext_27 : decode cX0_layNext 27 = .ok (.getfield 24, 3) := by decide +kernel
theorem dX0_layNext_30 : decode cX0_layNext 30 = .ok (.if_icmp .ge 48, 3) := by decide +kernel
theorem dX0_layNext_33 : decode cX0_layNext 33 = .ok (.aload_n 0, 1) := by decide +kernel
theorem dX0_layNext_34 : decode cX0_layNext 34 = .ok (.getfield 28, 3) := by decide +kernel
theorem dX0_layNext_37 : decode cX0_layNext 37 = .ok (.aload_n 0, 1) := by decide +kernel
theorem dX0_layNext_38 : decode cX0_layNext 38 = .ok (.getfield 31, 3) := by decide +kernel
theorem dX0_layNext_41 : decode cX0_layNext 41 = .ok (.if_icmp .le 37, 3) := by decide +kernel
theorem dX0_layNext_44 : decode cX0_layNext 44 = .ok (.iload_n 2, 1) := by decide +kernel
theorem dX0_layNext_45 : decode cX0_layNext 45 = .ok (.iload 4, 2) := by decide +kernel
theorem dX0_layNext_47 : decode cX0_layNext 47 = .ok (.ishr, 1) := by decide +kernel
theorem dX0_layNext_48 : decode cX0_layNext 48 = .ok (.iconst 1, 1) := by decide +kernel
theorem dX0_layNext_49 : decode cX0_layNext 49 = .ok (.iand, 1) := by decide +kernel
theorem dX0_layNext_50 : decode cX0_layNext 50 = .ok (.ifCond .ne 22, 3) := by decide +kernel
theorem dX0_layNext_53 : decode cX0_layNext 53 = .ok (.aload_n 0, 1) := by decide +kernel
theorem dX0_layNext_54 : decode cX0_layNext 54 = .ok (.iload 4, 2) := by decide +kernel
theorem dX0_layNext_56 : decode cX0_layNext 56 = .ok (.iload_n 2, 1) := by decide +kernel
theorem dX0_layNext_57 : decode cX0_layNext 57 = .ok (.invokevirtual 63, 3) := by decide +kernel
theorem dX0_layNext_60 : decode cX0_layNext 60 = .ok (.ifCond .ne 12, 3) := by decide +kernel
theorem dX0_layNext_63 : decode cX0_layNext 63 = .ok (.aload_n 0, 1) := by decide +kernel
theorem dX0_layNext_64 : decode cX0_layNext 64 = .ok (.iload 4, 2) := by decide +kernel
theorem dX0_layNext_66 : decode cX0_layNext 66 = .ok (.iload_n 1, 1) := by decide +kernel
theorem dX0_layNext_67 : decode cX0_layNext 67 = .ok (.iload_n 2, 1) := by decide +kernel
theorem dX0_layNext_68 : decode cX0_layNext 68 = .ok (.iload_n 3, 1) := by decide +kernel
theorem dX0_layNext_69 : decode cX0_layNext 69 = .ok (.invokevirtual 66, 3) := by decide +kernel
theorem dX0_layNext_72 : decode cX0_layNext 72 = .ok (.iinc 4 1, 3) := by decide +kernel
theorem dX0_layNext_75 : decode cX0_layNext 75 = .ok (.goto (-51), 3) := by decide +kernel
theorem dX0_layNext_78 : decode cX0_layNext 78 = .ok (.return_, 1) := by decide +kernel
theorem dX0_hasTwin_0 : decode cX0_hasTwin 0 = .ok (.iconst 0, 1) := by decide +kernel
theorem dX0_hasTwin_1 : decode cX0_hasTwin 1 = .ok (.istore_n 3, 1) := by decide +kernel
theorem dX0_hasTwin_2 : decode cX0_hasTwin 2 = .ok (.iload_n 3, 1) := by decide +kernel
theorem dX0_hasTwin_3 : decode cX0_hasTwin 3 = .ok (.iload_n 1, 1) := by decide +kernel
theorem dX0_hasTwin_4 : decode cX0_hasTwin 4 = .ok (.if_icmp .ge 49, 3) := by decide +kernel
theorem dX0_hasTwin_7 : decode cX0_hasTwin 7 = .ok (.iload_n 2, 1) := by decide +kernel
theorem dX0_hasTwin_8 : decode cX0_hasTwin 8 = .ok (.iload_n 3, 1) := by decide +kernel
theorem dX0_hasTwin_9 : decode cX0_hasTwin 9 = .ok (.ishr, 1) := by decide +kernel
theorem dX0_hasTwin_10 : decode cX0_hasTwin 10 = .ok (.iconst 1, 1) := by decide +kernel
theorem dX0_hasTwin_11 : decode cX0_hasTwin 11 = .ok (.iand, 1) := by decide +kernel
theorem dX0_hasTwin_12 : decode cX0_hasTwin 12 = .ok (.ifCond .ne 35, 3) := by decide +kernel
theorem dX0_hasTwin_15 : decode cX0_hasTwin 15 = .ok (.aload_n 0, 1) := by decide +kernel
theorem dX0_hasTwin_16 : decode cX0_hasTwin 16 = .ok (.getfield 9, 3) := by decide +kernel
theorem dX0_hasTwin_19 : decode cX0_hasTwin 19 = .ok (.iload_n 3, 1) := by decide +kernel
theorem dX0_hasTwin_20 : decode cX0_hasTwin 20 = .ok (.iaload, 1) := by decide +kernel
theorem dX0_hasTwin_21 : decode cX0_hasTwin 21 = .ok (.aload_n 0, 1) := by decide +kernel
theorem dX0_hasTwin_22 : decode cX0_hasTwin 22 = .ok (.getfield 9, 3) := by decide +kernel
theorem dX0_hasTwin_25 : decode cX0_hasTwin 25 = .ok (.iload_n 1, 1) := by decide +kernel
theorem dX0_hasTwin_26 : decode cX0_hasTwin 26 = .ok (.iaload, 1) := by decide +kernel
theorem dX0_hasTwin_27 : decode cX0_hasTwin 27 = .ok (.if_icmp .ne 20, 3) := by decide +kernel
theorem dX0_hasTwin_30 : decode cX0_hasTwin 30 = .ok (.aload_n 0, 1) := by decide +kernel
theorem dX0_hasTwin_31 : decode cX0_hasTwin 31 = .ok (.getfield 13, 3) := by decide +kernel
theorem dX0_hasTwin_34 : decode cX0_hasTwin 34 = .ok (.iload_n 3, 1) := by decide +kernel
theorem dX0_hasTwin_35 : decode cX0_hasTwin 35 = .ok (.iaload, 1) := by decide +kernel
theorem dX0_hasTwin_36 : decode cX0_hasTwin 36 = .ok (.aload_n 0, 1) := by decide +kernel
theorem dX0_hasTwin_37 : decode cX0_hasTwin 37 = .ok (.getfield 13, 3) := by decide +kernel
theorem dX0_hasTwin_40 : decode cX0_hasTwin 40 = .ok (.iload_n 1, 1) := by decide +kernel
theorem dX0_hasTwin_41 : decode cX0_hasTwin 41 = .ok (.iaload, 1) := by decide +kernel
theorem dX0_hasTwin_42 : decode cX0_hasTwin 42 = .ok (.if_icmp .ne 5, 3) := by decide +kernel
theorem dX0_hasTwin_45 : decode cX0_hasTwin 45 = .ok (.iconst 1, 1) := by decide +kernel
theorem dX0_hasTwin_46 : decode cX0_hasTwin 46 = .ok (.ireturn, 1) := by decide +kernel
theorem dX0_hasTwin_47 : decode cX0_hasTwin 47 = .ok (.iinc 3 1, 3) := by decide +kernel
theorem dX0_hasTwin_50 : decode cX0_hasTwin 50 = .ok (.goto (-48), 3) := by decide +kernel
theorem dX0_hasTwin_53 : decode cX0_hasTwin 53 = .ok (.iconst 0, 1) := by decide +kernel
theorem dX0_hasTwin_54 : decode cX0_hasTwin 54 = .ok (.ireturn, 1) := by decide +kernel
theorem dX0_layEverywhere_0 : decode cX0_layEverywhere 0 = .ok (.iconst 0, 1) := by decide +kernel
theorem dX0_layEverywhere_1 : decode cX0_layEverywhere 1 = .ok (.istore 5, 2) := by decide +kernel
theorem dX0_layEverywhere_3 : decode cX0_layEverywhere 3 = .ok (.iload 5, 2) := by decide +kernel
theorem dX0_layEverywhere_5 : decode cX0_layEverywhere 5 = .ok (.aload_n 0, 1) := by decide +kernel
theorem dX0_layEverywhere_6 : decode cX0_layEverywhere 6 = .ok (.getfield 9, 3) := by decide +kernel
theorem dX0_layEverywhere_9 : decode cX0_layEverywhere 9 = .ok (.iload_n 1, 1) := by decide +kernel
theorem dX0_layEverywhere_10 : decode cX0_layEverywhere 10 = .ok (.iaload, 1) := by decide +kernel
theorem dX0_layEverywhere_11 : decode cX0_layEverywhere 11 = .ok (.iadd, 1) := by decide +kernel
theorem dX0_layEverywhere_12 : decode cX0_layEverywhere 12 = .ok (.bipush 8, 2) := by decide +kernel
theorem dX0_layEverywhere_14 : decode cX0_layEverywhere 14 = .ok (.if_icmp .gt 76, 3) := by decide +kernel
theorem dX0_layEverywhere_17 : decode cX0_layEverywhere 17 = .ok (.aload_n 0, 1) := by decide +kernel
theorem dX0_layEverywhere_18 : decode cX0_layEverywhere 18 = .ok (.getfield 28, 3) := by decide +kernel
theorem dX0_layEverywhere_21 : decode cX0_layEverywhere 21 = .ok (.aload_n 0, 1) := by decide +kernel
theorem dX0_layEverywhere_22 : decode cX0_layEverywhere 22 = .ok (.getfield 31, 3) := by decide +kernel
theorem dX0_layEverywhere_25 : decode cX0_layEverywhere 25 = .ok (.if_icmp .le 65, 3) := by decide +kernel
theorem dX0_layEverywhere_28 : decode cX0_layEverywhere 28 = .ok (.aload_n 0, 1) := by decide +kernel
theorem dX0_layEverywhere_29 : decode cX0_layEverywhere 29 = .ok (.getfield 16, 3) := by decide +kernel
theorem dX0_layEverywhere_32 : decode cX0_layEverywhere 32 = .ok (.iload_n 1, 1) := by decide +kernel
theorem dX0_layEverywhere_33 : decode cX0_layEverywhere 33 = .ok (.iaload, 1) := by decide +kernel
theorem dX0_layEverywhere_34 : decode cX0_layEverywhere 34 = .ok (.iload 5, 2) := by decide +kernel
theorem dX0_layEverywhere_36 : decode cX0_layEverywhere 36 = .ok (.ishr, 1) := by decide +kernel
theorem dX0_layEverywhere_37 : decode cX0_layEverywhere 37 = .ok (.iconst 1, 1) := by decide +kernel
theorem dX0_layEverywhere_38 : decode cX0_layEverywhere 38 = .ok (.iand, 1) := by decide +kernel
theorem dX0_layEverywhere_39 : decode cX0_layEverywhere 39 = .ok (.ifCond .eq 45, 3) := by decide +kernel
theorem dX0_layEverywhere_42 : decode cX0_layEverywhere 42 = .ok (.aload_n 0, 1) := by decide +kernel
theorem dX0_layEverywhere_43 : decode cX0_layEverywhere 43 = .ok (.iload_n 1, 1) := by decide +kernel
theorem dX0_layEverywhere_44 : decode cX0_layEverywhere 44 = .ok (.iload_n 2, 1) := by decide +kernel
theorem dX0_layEverywhere_45 : decode cX0_layEverywhere 45 = .ok (.iload 5, 2) := by decide +kernel
theorem dX0_layEverywhere_47 : decode cX0_layEverywhere 47 = .ok (.invokevirtual 70, 3) := by decide +kernel
theorem dX0_layEverywhere_50 : decode cX0_layEverywhere 50 = .ok (.istore 6, 2) := by decide +kernel
theorem dX0_layEverywhere_52 : decode cX0_layEverywhere 52 = .ok (.iload 4, 2) := by decide +kernel
theorem dX0_layEverywhere_54 : decode cX0_layEverywhere 54 = .ok (.iload 6, 2) := by decide +kernel
theorem dX0_layEverywhere_56 : decode cX0_layEverywhere 56 = .ok (.invokestatic 40, 3) := by decide +kernel
theorem dX0_layEverywhere_59 : decode cX0_layEverywhere 59 = .ok (.istore 7, 2) := by decide +kernel
theorem dX0_layEverywhere_61 : decode cX0_layEverywhere 61 = .ok (.iload 7, 2) := by decide +kernel
theorem dX0_layEverywhere_63 : decode cX0_layEverywhere 63 = .ok (.aload_n 0, 1) := by decide +kernel
theorem dX0_layEverywhere_64 : decode cX0_layEverywhere 64 = .ok (.getfield 28, 3) := by decide +kernel
theorem dX0_layEverywhere_67 : decode cX0_layEverywhere 67 = .ok (.if_icmp .ge 17, 3) := by decide +kernel
theorem dX0_layEverywhere_70 : decode cX0_layEverywhere 70 = .ok (.aload_n 0, 1) := by decide +kernel
theorem dX0_layEverywhere_71 : decode cX0_layEverywhere 71 = .ok (.iload_n 2, 1) := by decide +kernel
theorem dX0_layEverywhere_72 : decode cX0_layEverywhere 72 = .ok (.iconst 1, 1) := by decide +kernel
theorem dX0_layEverywhere_73 : decode cX0_layEverywhere 73 = .ok (.iadd, 1) := by decide +kernel
theorem dX0_layEverywhere_74 : decode cX0_layEverywhere 74 = .ok (.iload_n 3, 1) := by decide +kernel
theorem dX0_layEverywhere_75 : decode cX0_layEverywhere 75 = .ok (.iconst 1, 1) := by decide +kernel
theorem dX0_layEverywhere_76 : decode cX0_layEverywhere 76 = .ok (.iload_n 1, 1) := by decide +kernel
theorem dX0_layEverywhere_77 : decode cX0_layEverywhere 77 = .ok (.ishl, 1) := by decide +kernel
theorem dX0_layEverywhere_78 : decode cX0_layEverywhere 78 = .ok (.ior, 1) := by decide +kernel
theorem dX0_layEverywhere_79 : decode cX0_layEverywhere 79 = .ok (.iload 7, 2) := by decide +kernel
theorem dX0_layEverywhere_81 : decode cX0_layEverywhere 81 = .ok (.invokevirtual 56, 3) := by decide +kernel
theorem dX0_layEverywhere_84 : decode cX0_layEverywhere 84 = .ok (.iinc 5 1, 3) := by decide +kernel
theorem dX0_layEverywhere_87 : decode cX0_layEverywhere 87 = .ok (.goto (-84), 3) := by decide +kernel
theorem dX0_layEverywhere_90 : decode cX0_layEverywhere 90 = .ok (.return_, 1) := by decide +kernel
theorem dX0_lay_0 : decode cX0_lay 0 = .ok (.aload_n 0, 1) := by decide +kernel
theorem dX0_lay_1 : decode cX0_lay 1 = .ok (.getfield 21, 3) := by decide +kernel
theorem dX0_lay_4 : decode cX0_lay 4 = .ok (.iload_n 2, 1) := by decide +kernel
theorem dX0_lay_5 : decode cX0_lay 5 = .ok (.aaload, 1) := by decide +kernel
theorem dX0_lay_6 : decode cX0_lay 6 = .ok (.astore 4, 2) := by decide +kernel
theorem dX0_lay_8 : decode cX0_lay 8 = .ok (.aload_n 0, 1) := by decide +kernel
theorem dX0_lay_9 : decode cX0_lay 9 = .ok (.getfield 21, 3) := by decide +kernel
theorem dX0_lay_12 : decode cX0_lay 12 = .ok (.iload_n 2, 1) := by decide +kernel
theorem dX0_lay_13 : decode cX0_lay 13 = .ok (.iconst 1, 1) := by decide +kernel
theorem dX0_lay_14 : decode cX0_lay 14 = .ok (.iadd, 1) := by decide +kernel
theorem dX0_lay_15 : decode cX0_lay 15 = .ok (.aaload, 1) := by decide +kernel
theorem dX0_lay_16 : decode cX0_lay 16 = .ok (.astore 5, 2) := by decide +kernel
theorem dX0_lay_18 : decode cX0_lay 18 = .ok (.aload 4, 2) := by decide +kernel
theorem dX0_lay_20 : decode cX0_lay 20 = .ok (.iconst 0, 1) := by decide +kernel
theorem dX0_lay_21 : decode cX0_lay 21 = .ok (.aload 5, 2) := by decide +kernel
theorem dX0_lay_23 : decode cX0_lay 23 = .ok (.iconst 0, 1) := by decide +kernel
theorem dX0_lay_24 : decode cX0_lay 24 = .ok (.bipush 8, 2) := by decide +kernel
theorem dX0_lay_26 : decode cX0_lay 26 = .ok (.invokestatic 74, 3) := by decide +kernel
theorem dX0_lay_29 : decode cX0_lay 29 = .ok (.iconst 0, 1) := by decide +kernel
theorem dX0_lay_30 : decode cX0_lay 30 = .ok (.istore 6, 2) := by decide +kernel
theorem dX0_lay_32 : decode cX0_lay 32 = .ok (.iload_n 3, 1) := by decide +kernel
theorem dX0_lay_33 : decode cX0_lay 33 = .ok (.istore 7, 2) := by decide +kernel
theorem dX0_lay_35 : decode cX0_lay 35 = .ok (.iload 7, 2) := by decide +kernel
theorem dX0_lay_37 : decode cX0_lay 37 = .ok (.iload_n 3, 1) := by decide +kernel
theorem dX0_lay_38 : decode cX0_lay 38 = .ok (.aload_n 0, 1) := by decide +kernel
theorem dX0_lay_39 : decode cX0_lay 39 = .ok (.getfield 9, 3) := by decide +kernel
theorem dX0_lay_42 : decode cX0_lay 42 = .ok (.iload_n 1, 1) := by decide +kernel
theorem dX0_lay_43 : decode cX0_lay 43 = .ok (.iaload, 1) := by decide +kernel
theorem dX0_lay_44 : decode cX0_lay 44 = .ok (.iadd, 1) := by decide +kernel
theorem dX0_lay_45 : decode cX0_lay 45 = .ok (.if_icmp .ge 28, 3) := by decide +kernel
theorem dX0_lay_48 : decode cX0_lay 48 = .ok (.iload 7, 2) := by decide +kernel
theorem dX0_lay_50 : decode cX0_lay 50 = .ok (.bipush 8, 2) := by decide +kernel
theorem dX0_lay_52 : decode cX0_lay 52 = .ok (.if_icmp .ge 21, 3) := by decide +kernel
theorem dX0_lay_55 : decode cX0_lay 55 = .ok (.iload 6, 2) := by decide +kernel
theorem dX0_lay_57 : decode cX0_lay 57 = .ok (.aload 4, 2) := by decide +kernel
theorem dX0_lay_59 : decode cX0_lay 59 = .ok (.iload 7, 2) := by decide +kernel
theorem dX0_lay_61 : decode cX0_lay 61 = .ok (.iaload, 1) := by decide +kernel
theorem dX0_lay_62 : decode cX0_lay 62 = .ok (.invokestatic 40, 3) := by decide +kernel
theorem dX0_lay_65 : decode cX0_lay 65 = .ok (.istore 6, 2) := by decide +kernel
theorem dX0_lay_67 : decode cX0_lay 67 = .ok (.iinc 7 1, 3) := by decide +kernel
theorem dX0_lay_70 : decode cX0_lay 70 = .ok (.goto (-35), 3) := by decide +kernel
theorem dX0_lay_73 : decode cX0_lay 73 = .ok (.iload 6, 2) := by decide +kernel
theorem dX0_lay_75 : decode cX0_lay 75 = .ok (.aload_n 0, 1) := by decide +kernel
theorem dX0_lay_76 : decode cX0_lay 76 = .ok (.getfield 13, 3) := by decide +kernel
theorem dX0_lay_79 : decode cX0_lay 79 = .ok (.iload_n 1, 1) := by decide +kernel
theorem dX0_lay_80 : decode cX0_lay 80 = .ok (.iaload, 1) := by decide +kernel
theorem dX0_lay_81 : decode cX0_lay 81 = .ok (.iadd, 1) := by decide +kernel
theorem dX0_lay_82 : decode cX0_lay 82 = .ok (.istore 6, 2) := by decide +kernel
theorem dX0_lay_84 : decode cX0_lay 84 = .ok (.iload_n 3, 1) := by decide +kernel
theorem dX0_lay_85 : decode cX0_lay 85 = .ok (.istore 7, 2) := by decide +kernel
theorem dX0_lay_87 : decode cX0_lay 87 = .ok (.iload 7, 2) := by decide +kernel
theorem dX0_lay_89 : decode cX0_lay 89 = .ok (.iload_n 3, 1) := by decide +kernel
theorem dX0_lay_90 : decode cX0_lay 90 = .ok (.aload_n 0, 1) := by decide +kernel
theorem dX0_lay_91 : decode cX0_lay 91 = .ok (.getfield 9, 3) := by decide +kernel
theorem dX0_lay_94 : decode cX0_lay 94 = .ok (.iload_n 1, 1) := by decide +kernel
theorem dX0_lay_95 : decode cX0_lay 95 = .ok (.iaload, 1) := by decide +kernel
theorem dX0_lay_96 : decode cX0_lay 96 = .ok (.iadd, 1) := by decide +kernel
theorem dX0_lay_97 : decode cX0_lay 97 = .ok (.if_icmp .ge 23, 3) := by decide +kernel
theorem dX0_lay_100 : decode cX0_lay 100 = .ok (.iload 7, 2) := by decide +kernel
theorem dX0_lay_102 : decode cX0_lay 102 = .ok (.bipush 8, 2) := by decide +kernel
theorem dX0_lay_104 : decode cX0_lay 104 = .ok (.if_icmp .ge 16, 3) := by decide +kernel
theorem dX0_lay_107 : decode cX0_lay 107 = .ok (.aload 5, 2) := by decide +kernel
theorem dX0_lay_109 : decode cX0_lay 109 = .ok (.iload 7, 2) := by decide +kernel
theorem dX0_lay_111 : decode cX0_lay 111 = .ok (.iload 6, 2) := by decide +kernel
theorem dX0_lay_113 : decode cX0_lay 113 = .ok (.iastore, 1) := by decide +kernel
theorem dX0_lay_114 : decode cX0_lay 114 = .ok (.iinc 7 1, 3) := by decide +kernel
theorem dX0_lay_117 : decode cX0_lay 117 = .ok (.goto (-30), 3) := by decide +kernel
theorem dX0_lay_120 : decode cX0_lay 120 = .ok (.iload 6, 2) := by decide +kernel
theorem dX0_lay_122 : decode cX0_lay 122 = .ok (.ireturn, 1) := by decide +kernel
theorem dX1_clear_0 : decode cX1_clear 0 = .ok (.aload_n 0, 1) := by decide +kernel
theorem dX1_clear_1 : decode cX1_clear 1 = .ok (.iconst 0, 1) := by decide +kernel
theorem dX1_clear_2 : decode cX1_clear 2 = .ok (.putfield 19, 3) := by decide +kernel
theorem dX1_clear_5 : decode cX1_clear 5 = .ok (.return_, 1) := by decide +kernel
theorem dX1_put_0 : decode cX1_put 0 = .ok (.aload_n 0, 1) := by decide +kernel
theorem dX1_put_1 : decode cX1_put 1 = .ok (.getfield 19, 3) := by decide +kernel
theorem dX1_put_4 : decode cX1_put 4 = .ok (.aload_n 0, 1) := by decide +kernel
theorem dX1_put_5 : decode cX1_put 5 = .ok (.getfield 7, 3) := by decide +kernel
theorem dX1_put_8 : decode cX1_put 8 = .ok (.arraylength, 1) := by decide +kernel
theorem dX1_put_9 : decode cX1_put 9 = .ok (.if_icmp .ge 23, 3) := by decide +kernel
theorem dX1_put_12 : decode cX1_put 12 = .ok (.aload_n 0, 1) := by decide +kernel
theorem dX1_put_13 : decode cX1_put 13 = .ok (.getfield 7, 3) := by decide +kernel
theorem dX1_put_16 : decode cX1_put 16 = .ok (.aload_n 0, 1) := by decide +kernel
theorem dX1_put_17 : decode cX1_put 17 = .ok (.getfield 19, 3) := by decide +kernel
theorem dX1_put_20 : decode cX1_put 20 = .ok (.iload_n 1, 1) := by decide +kernel
theorem dX1_put_21 : decode cX1_put 21 = .ok (.iastore, 1) := by decide +kernel
theorem dX1_put_22 : decode cX1_put 22 = .ok (.aload_n 0, 1) := by decide +kernel
theorem dX1_put_23 : decode cX1_put 23 = .ok (.dup, 1) := by decide +kernel
theorem dX1_put_24 : decode cX1_put 24 = .ok (.getfield 19, 3) := by decide +kernel
theorem dX1_put_27 : decode cX1_put 27 = .ok (.iconst 1, 1) := by decide +kernel
theorem dX1_put_28 : decode cX1_put 28 = .ok (.iadd, 1) := by decide +kernel
theorem dX1_put_29 : decode cX1_put 29 = .ok (.putfield 19, 3) := by decide +kernel
theorem dX1_put_32 : decode cX1_put 32 = .ok (.return_, 1) := by decide +kernel
theorem dX1_putConstant_0 : decode cX1_putConstant 0 = .ok (.aload_n 0, 1) := by decide +kernel
theorem dX1_putConstant_1 : decode cX1_putConstant 1 = .ok (.invokevirtual 23, 3) := by decide +kernel
theorem dX1_putConstant_4 : decode cX1_putConstant 4 = .ok (.aload_n 0, 1) := by decide +kernel
theorem dX1_putConstant_5 : decode cX1_putConstant 5 = .ok (.iload_n 1, 1) := by decide +kernel
theorem dX1_putConstant_6 : decode cX1_putConstant 6 = .ok (.invokevirtual 26, 3) := by decide +kernel
theorem dX1_putConstant_9 : decode cX1_putConstant 9 = .ok (.aload_n 0, 1) := by decide +kernel
theorem dX1_putConstant_10 : decode cX1_putConstant 10 = .ok (.bipush (-15), 2) := by decide +kernel
theorem dX1_putConstant_12 : decode cX1_putConstant 12 = .ok (.invokevirtual 26, 3) := by decide +kernel
theorem dX1_putConstant_15 : decode cX1_putConstant 15 = .ok (.return_, 1) := by decide +kernel
theorem dX1_putUnlessLess_0 : decode cX1_putUnlessLess 0 = .ok (.aload_n 0, 1) := by decide +kernel
theorem dX1_putUnlessLess_1 : decode cX1_putUnlessLess 1 = .ok (.bipush (-14), 2) := by decide +kernel
theorem dX1_putUnlessLess_3 : decode cX1_putUnlessLess 3 = .ok (.invokevirtual 26, 3) := by decide +kernel
theorem dX1_putUnlessLess_6 : decode cX1_putUnlessLess 6 = .ok (.aload_n 0, 1) := by decide +kernel
theorem dX1_putUnlessLess_7 : decode cX1_putUnlessLess 7 = .ok (.iconst 0, 1) := by decide +kernel
theorem dX1_putUnlessLess_8 : decode cX1_putUnlessLess 8 = .ok (.invokevirtual 26, 3) := by decide +kernel
theorem dX1_putUnlessLess_11 : decode cX1_putUnlessLess 11 = .ok (.aload_n 0, 1) := by decide +kernel
theorem dX1_putUnlessLess_12 : decode cX1_putUnlessLess 12 = .ok (.getfield 19, 3) := by decide +kernel
theorem dX1_putUnlessLess_15 : decode cX1_putUnlessLess 15 = .ok (.iconst 1, 1) := by decide +kernel
theorem dX1_putUnlessLess_16 : decode cX1_putUnlessLess 16 = .ok (.isub, 1) := by decide +kernel
theorem dX1_putUnlessLess_17 : decode cX1_putUnlessLess 17 = .ok (.ireturn, 1) := by decide +kernel
theorem dX1_aimHere_0 : decode cX1_aimHere 0 = .ok (.iload_n 1, 1) := by decide +kernel
theorem dX1_aimHere_1 : decode cX1_aimHere 1 = .ok (.ifCond .lt 21, 3) := by decide +kernel
theorem dX1_aimHere_4 : decode cX1_aimHere 4 = .ok (.iload_n 1, 1) := by decide +kernel
theorem dX1_aimHere_5 : decode cX1_aimHere 5 = .ok (.aload_n 0, 1) := by decide +kernel
theorem dX1_aimHere_6 : decode cX1_aimHere 6 = .ok (.getfield 19, 3) := by decide +kernel
theorem dX1_aimHere_9 : decode cX1_aimHere 9 = .ok (.if_icmp .ge 13, 3) := by decide +kernel
theorem dX1_aimHere_12 : decode cX1_aimHere 12 = .ok (.aload_n 0, 1) := by decide +kernel
theorem dX1_aimHere_13 : decode cX1_aimHere 13 = .ok (.getfield 7, 3) := by decide +kernel
theorem dX1_aimHere_16 : decode cX1_aimHere 16 = .ok (.iload_n 1, 1) := by decide +kernel
theorem dX1_aimHere_17 : decode cX1_aimHere 17 = .ok (.aload_n 0, 1) := by decide +kernel
theorem dX1_aimHere_18 : decode cX1_aimHere 18 = .ok (.getfield 19, 3) := by decide +kernel
theorem dX1_aimHere_21 : decode cX1_aimHere 21 = .ok (.iastore, 1) := by decide +kernel
theorem dX1_aimHere_22 : decode cX1_aimHere 22 = .ok (.return_, 1) := by decide +kernel
theorem dX1_answer_0 : decode cX1_answer 0 = .ok (.iconst 0, 1) := by decide +kernel
theorem dX1_answer_1 : decode cX1_answer 1 = .ok (.istore_n 1, 1) := by decide +kernel
theorem dX1_answer_2 : decode cX1_answer 2 = .ok (.iconst 0, 1) := by decide +kernel
theorem dX1_answer_3 : decode cX1_answer 3 = .ok (.istore_n 2, 1) := by decide +kernel
theorem dX1_answer_4 : decode cX1_answer 4 = .ok (.iload_n 2, 1) := by decide +kernel
theorem dX1_answer_5 : decode cX1_answer 5 = .ok (.aload_n 0, 1) := by decide +kernel
theorem dX1_answer_6 : decode cX1_answer 6 = .ok (.getfield 19, 3) := by decide +kernel
theorem dX1_answer_9 : decode cX1_answer 9 = .ok (.if_icmp .ge 203, 3) := by decide +kernel
theorem dX1_answer_12 : decode cX1_answer 12 = .ok (.aload_n 0, 1) := by decide +kernel
theorem dX1_answer_13 : decode cX1_answer 13 = .ok (.getfield 7, 3) := by decide +kernel
theorem dX1_answer_16 : decode cX1_answer 16 = .ok (.iload_n 2, 1) := by decide +kernel
theorem dX1_answer_17 : decode cX1_answer 17 = .ok (.iaload, 1) := by decide +kernel
theorem dX1_answer_18 : decode cX1_answer 18 = .ok (.istore_n 3, 1) := by decide +kernel
theorem dX1_answer_19 : decode cX1_answer 19 = .ok (.iload_n 3, 1) := by decide +kernel
theorem dX1_answer_20 : decode cX1_answer 20 = .ok (.bipush (-9), 2) := by decide +kernel
theorem dX1_answer_22 : decode cX1_answer 22 = .ok (.if_icmp .lt 42, 3) := by decide +kernel
theorem dX1_answer_25 : decode cX1_answer 25 = .ok (.iload_n 1, 1) := by decide +kernel
theorem dX1_answer_26 : decode cX1_answer 26 = .ok (.aload_n 0, 1) := by decide +kernel
theorem dX1_answer_27 : decode cX1_answer 27 = .ok (.getfield 13, 3) := by decide +kernel
theorem dX1_answer_30 : decode cX1_answer 30 = .ok (.arraylength, 1) := by decide +kernel
theorem dX1_answer_31 : decode cX1_answer 31 = .ok (.if_icmp .lt 5, 3) := by decide +kernel
theorem dX1_answer_34 : decode cX1_answer 34 = .ok (.iconst 0, 1) := by decide +kernel
theorem dX1_answer_35 : decode cX1_answer 35 = .ok (.ireturn, 1) := by decide +kernel
theorem dX1_answer_36 : decode cX1_answer 36 = .ok (.aload_n 0, 1) := by decide +kernel
theorem dX1_answer_37 : decode cX1_answer 37 = .ok (.getfield 13, 3) := by decide +kernel
theorem dX1_answer_40 : decode cX1_answer 40 = .ok (.iload_n 1, 1) := by decide +kernel
theorem dX1_answer_41 : decode cX1_answer 41 = .ok (.iload_n 3, 1) := by decide +kernel
theorem dX1_answer_42 : decode cX1_answer 42 = .ok (.ifCond .lt 7, 3) := by decide +kernel
theorem dX1_answer_45 : decode cX1_answer 45 = .ok (.iload_n 3, 1) := by decide +kernel
theorem dX1_answer_46 : decode cX1_answer 46 = .ok (.goto 11, 3) := by decide +kernel
theorem dX1_answer_49 : decode cX1_answer 49 = .ok (.aload_n 0, 1) := by decide +kernel
theorem dX1_answer_50 : decode cX1_answer 50 = .ok (.getfield 16, 3) := by decide +kernel
theorem dX1_answer_53 : decode cX1_answer 53 = .ok (.iconst (-1), 1) := by decide +kernel
theorem dX1_answer_54 : decode cX1_answer 54 = .ok (.iload_n 3, 1) := by decide +kernel
theorem dX1_answer_55 : decode cX1_answer 55 = .ok (.isub, 1) := by decide +kernel
theorem dX1_answer_56 : decode cX1_answer 56 = .ok (.iaload, 1) := by decide +kernel
theorem dX1_answer_57 : decode cX1_answer 57 = .ok (.iastore, 1) := by decide +kernel
theorem dX1_answer_58 : decode cX1_answer 58 = .ok (.iinc 1 1, 3) := by decide +kernel
theorem dX1_answer_61 : decode cX1_answer 61 = .ok (.goto 145, 3) := by decide +kernel
theorem dX1_answer_64 : decode cX1_answer 64 = .ok (.iload_n 3, 1) := by decide +kernel
theorem dX1_answer_65 : decode cX1_answer 65 = .ok (.bipush (-15), 2) := by decide +kernel
theorem dX1_answer_67 : decode cX1_answer 67 = .ok (.if_icmp .ne 20, 3) := by decide +kernel
theorem dX1_answer_70 : decode cX1_answer 70 = .ok (.iload_n 1, 1) := by decide +kernel
theorem dX1_answer_71 : decode cX1_answer 71 = .ok (.ifCond .le 14, 3) := by decide +kernel
theorem dX1_answer_74 : decode cX1_answer 74 = .ok (.aload_n 0, 1) := by decide +kernel
theorem dX1_answer_75 : decode cX1_answer 75 = .ok (.getfield 13, 3) := by decide +kernel
theorem dX1_answer_78 : decode cX1_answer 78 = .ok (.iload_n 1, 1) := by decide +kernel
theorem dX1_answer_79 : decode cX1_answer 79 = .ok (.iconst 1, 1) := by decide +kernel
theorem dX1_answer_80 : decode cX1_answer 80 = .ok (.isub, 1) := by decide +kernel
theorem dX1_answer_81 : decode cX1_answer 81 = .ok (.iaload, 1) := by decide +kernel
theorem dX1_answer_82 : decode cX1_answer 82 = .ok (.goto 4, 3) := by decide +kernel
theorem dX1_answer_85 : decode cX1_answer 85 = .ok (.iconst 0, 1) := by decide +kernel
theorem dX1_answer_86 : decode cX1_answer 86 = .ok (.ireturn, 1) := by decide +kernel
theorem dX1_answer_87 : decode cX1_answer 87 = .ok (.iload_n 1, 1) := by decide +kernel
theorem dX1_answer_88 : decode cX1_answer 88 = .ok (.iconst 2, 1) := by decide +kernel
theorem dX1_answer_89 : decode cX1_answer 89 = .ok (.if_icmp .lt 13, 3) := by decide +kernel
theorem dX1_answer_92 : decode cX1_answer 92 = .ok (.iload_n 2, 1) := by decide +kernel
theorem dX1_answer_93 : decode cX1_answer 93 = .ok (.iconst 1, 1) := by decide +kernel
theorem dX1_answer_94 : decode cX1_answer 94 = .ok (.iadd, 1) := by decide +kernel
theorem dX1_answer_95 : decode cX1_answer 95 = .ok (.aload_n 0, 1) := by decide +kernel
theorem dX1_answer_96 : decode cX1_answer 96 = .ok (.getfield 19, 3) := by decide +kernel
theorem dX1_answer_99 : decode cX1_answer 99 = .ok (.if_icmp .lt 5, 3) := by decide +kernel
theorem dX1_answer_102 : decode cX1_answer 102 = .ok (.iconst 0, 1) := by decide +kernel
theorem dX1_answer_103 : decode cX1_answer 103 = .ok (.ireturn, 1) := by decide +kernel
theorem dX1_answer_104 : decode cX1_answer 104 = .ok (.aload_n 0, 1) := by decide +kernel
theorem dX1_answer_105 : decode cX1_answer 105 = .ok (.getfield 13, 3) := by decide +kernel
theorem dX1_answer_108 : decode cX1_answer 108 = .ok (.iload_n 1, 1) := by decide +kernel
theorem dX1_answer_109 : decode cX1_answer 109 = .ok (.iconst 2, 1) := by decide +kernel
theorem dX1_answer_110 : decode cX1_answer 110 = .ok (.isub, 1) := by decide +kernel
theorem dX1_answer_111 : decode cX1_answer 111 = .ok (.iaload, 1) := by decide +kernel
theorem dX1_answer_112 : decode cX1_answer 112 = .ok (.istore 4, 2) := by decide +kernel
theorem dX1_answer_114 : decode cX1_answer 114 = .ok (.aload_n 0, 1) := by decide +kernel
theorem dX1_answer_115 : decode cX1_answer 115 = .ok (.getfield 13, 3) := by decide +kernel
theorem dX1_answer_118 : decode cX1_answer 118 = .ok (.iload_n 1, 1) := by decide +kernel
theorem dX1_answer_119 : decode cX1_answer 119 = .ok (.iconst 1, 1) := by decide +kernel
theorem dX1_answer_120 : decode cX1_answer 120 = .ok (.isub, 1) := by decide +kernel
theorem dX1_answer_121 : decode cX1_answer 121 = .ok (.iaload, 1) := by decide +kernel
theorem dX1_answer_122 : decode cX1_answer 122 = .ok (.istore 5, 2) := by decide +kernel
theorem dX1_answer_124 : decode cX1_answer 124 = .ok (.iload_n 3, 1) := by decide +kernel
theorem dX1_answer_125 : decode cX1_answer 125 = .ok (.bipush (-14), 2) := by decide +kernel
theorem dX1_answer_127 : decode cX1_answer 127 = .ok (.if_icmp .ne 47, 3) := by decide +kernel
theorem dX1_answer_130 : decode cX1_answer 130 = .ok (.iinc 1 (-2), 3) := by decide +kernel
theorem dX1_answer_133 : decode cX1_answer 133 = .ok (.iload 4, 2) := by decide +kernel
theorem dX1_answer_135 : decode cX1_answer 135 = .ok (.iload 5, 2) := by decide +kernel
theorem dX1_answer_137 : decode cX1_answer 137 = .ok (.if_icmp .lt 30, 3) := by decide +kernel
theorem dX1_answer_140 : decode cX1_answer 140 = .ok (.aload_n 0, 1) := by decide +kernel
theorem dX1_answer_141 : decode cX1_answer 141 = .ok (.getfield 7, 3) := by decide +kernel
theorem dX1_answer_144 : decode cX1_answer 144 = .ok (.iload_n 2, 1) := by decide +kernel
theorem dX1_answer_145 : decode cX1_answer 145 = .ok (.iconst 1, 1) := by decide +kernel
theorem dX1_answer_146 : decode cX1_answer 146 = .ok (.iadd, 1) := by decide +kernel
theorem dX1_answer_147 : decode cX1_answer 147 = .ok (.iaload, 1) := by decide +kernel
theorem dX1_answer_148 : decode cX1_answer 148 = .ok (.iload_n 2, 1) := by decide +kernel
theorem dX1_answer_149 : decode cX1_answer 149 = .ok (.iconst 2, 1) := by decide +kernel
theorem dX1_answer_150 : decode cX1_answer 150 = .ok (.iadd, 1) := by decide +kernel
theorem dX1_answer_151 : decode cX1_answer 151 = .ok (.if_icmp .le 16, 3) := by decide +kernel
theorem dX1_answer_154 : decode cX1_answer 154 = .ok (.aload_n 0, 1) := by decide +kernel
theorem dX1_answer_155 : decode cX1_answer 155 = .ok (.getfield 7, 3) := by decide +kernel
theorem dX1_answer_158 : decode cX1_answer 158 = .ok (.iload_n 2, 1) := by decide +kernel
theorem dX1_answer_159 : decode cX1_answer 159 = .ok (.iconst 1, 1) := by decide +kernel
theorem dX1_answer_160 : decode cX1_answer 160 = .ok (.iadd, 1) := by decide +kernel
theorem dX1_answer_161 : decode cX1_answer 161 = .ok (.iaload, 1) := by decide +kernel
theorem dX1_answer_162 : decode cX1_answer 162 = .ok (.iconst 1, 1) := by decide +kernel
theorem dX1_answer_163 : decode cX1_answer 163 = .ok (.isub, 1) := by decide +kernel
theorem dX1_answer_164 : decode cX1_answer 164 = .ok (.goto 6, 3) := by decide +kernel
theorem dX1_answer_167 : decode cX1_answer 167 = .ok (.iload_n 2, 1) := by decide +kernel
theorem dX1_answer_168 : decode cX1_answer 168 = .ok (.iconst 1, 1) := by decide +kernel
theorem dX1_answer_169 : decode cX1_answer 169 = .ok (.iadd, 1) := by decide +kernel
theorem dX1_answer_170 : decode cX1_answer 170 = .ok (.istore_n 2, 1) := by decide +kernel
theorem dX1_answer_171 : decode cX1_answer 171 = .ok (.goto 35, 3) := by decide +kernel
theorem dX1_answer_174 : decode cX1_answer 174 = .ok (.iload_n 3, 1) := by decide +kernel
theorem dX1_answer_175 : decode cX1_answer 175 = .ok (.bipush (-13), 2) := by decide +kernel
theorem dX1_answer_177 : decode cX1_answer 177 = .ok (.if_icmp .ne 10, 3) := by decide +kernel
theorem dX1_answer_180 : decode cX1_answer 180 = .ok (.iload 5, 2) := by decide +kernel
theorem dX1_answer_182 : decode cX1_answer 182 = .ok (.ifCond .ne 5, 3) := by decide +kernel
theorem dX1_answer_185 : decode cX1_answer 185 = .ok (.iconst 0, 1) := by decide +kernel
theorem dX1_answer_186 : decode cX1_answer 186 = .ok (.ireturn, 1) := by decide +kernel
theorem dX1_answer_187 : decode cX1_answer 187 = .ok (.iinc 1 (-1), 3) := by decide +kernel
theorem dX1_answer_190 : decode cX1_answer 190 = .ok (.aload_n 0, 1) := by decide +kernel
theorem dX1_answer_191 : decode cX1_answer 191 = .ok (.getfield 13, 3) := by decide +kernel
theorem dX1_answer_194 : decode cX1_answer 194 = .ok (.iload_n 1, 1) := by decide +kernel
theorem dX1_answer_195 : decode cX1_answer 195 = .ok (.iconst 1, 1) := by decide +kernel
theorem dX1_answer_196 : decode cX1_answer 196 = .ok (.isub, 1) := by decide +kernel
theorem dX1_answer_197 : decode cX1_answer 197 = .ok (.iload_n 3, 1) := by decide +kernel
theorem dX1_answer_198 : decode cX1_answer 198 = .ok (.iload 4, 2) := by decide +kernel
theorem dX1_answer_200 : decode cX1_answer 200 = .ok (.iload 5, 2) := by decide +kernel
theorem dX1_answer_202 : decode cX1_answer 202 = .ok (.invokestatic 30, 3) := by decide +kernel
theorem dX1_answer_205 : decode cX1_answer 205 = .ok (.iastore, 1) := by decide +kernel
theorem dX1_answer_206 : decode cX1_answer 206 = .ok (.iinc 2 1, 3) := by decide +kernel
theorem dX1_answer_209 : decode cX1_answer 209 = .ok (.goto (-205), 3) := by decide +kernel
theorem dX1_answer_212 : decode cX1_answer 212 = .ok (.iconst 0, 1) := by decide +kernel
theorem dX1_answer_213 : decode cX1_answer 213 = .ok (.ireturn, 1) := by decide +kernel
theorem dX1_worked_0 : decode cX1_worked 0 = .ok (.iload_n 0, 1) := by decide +kernel
theorem dX1_worked_1 : decode cX1_worked 1 = .ok (.tableswitch 39 (-12) (-10) #[35, 31, 27], 27) := by decide +kernel
theorem dX1_worked_28 : decode cX1_worked 28 = .ok (.iload_n 1, 1) := by decide +kernel
theorem dX1_worked_29 : decode cX1_worked 29 = .ok (.iload_n 2, 1) := by decide +kernel
theorem dX1_worked_30 : decode cX1_worked 30 = .ok (.iadd, 1) := by decide +kernel
theorem dX1_worked_31 : decode cX1_worked 31 = .ok (.ireturn, 1) := by decide +kernel
theorem dX1_worked_32 : decode cX1_worked 32 = .ok (.iload_n 1, 1) := by decide +kernel
theorem dX1_worked_33 : decode cX1_worked 33 = .ok (.iload_n 2, 1) := by decide +kernel
theorem dX1_worked_34 : decode cX1_worked 34 = .ok (.isub, 1) := by decide +kernel
theorem dX1_worked_35 : decode cX1_worked 35 = .ok (.ireturn, 1) := by decide +kernel
theorem dX1_worked_36 : decode cX1_worked 36 = .ok (.iload_n 1, 1) := by decide +kernel
theorem dX1_worked_37 : decode cX1_worked 37 = .ok (.iload_n 2, 1) := by decide +kernel
theorem dX1_worked_38 : decode cX1_worked 38 = .ok (.imul, 1) := by decide +kernel
theorem dX1_worked_39 : decode cX1_worked 39 = .ok (.ireturn, 1) := by decide +kernel
theorem dX1_worked_40 : decode cX1_worked 40 = .ok (.iload_n 2, 1) := by decide +kernel
theorem dX1_worked_41 : decode cX1_worked 41 = .ok (.ifCond .ne 7, 3) := by decide +kernel
theorem dX1_worked_44 : decode cX1_worked 44 = .ok (.iconst 0, 1) := by decide +kernel
theorem dX1_worked_45 : decode cX1_worked 45 = .ok (.goto 6, 3) := by decide +kernel
theorem dX1_worked_48 : decode cX1_worked 48 = .ok (.iload_n 1, 1) := by decide +kernel
theorem dX1_worked_49 : decode cX1_worked 49 = .ok (.iload_n 2, 1) := by decide +kernel
theorem dX1_worked_50 : decode cX1_worked 50 = .ok (.idiv, 1) := by decide +kernel
theorem dX1_worked_51 : decode cX1_worked 51 = .ok (.ireturn, 1) := by decide +kernel
theorem dX2_clear_0 : decode cX2_clear 0 = .ok (.aload_n 0, 1) := by decide +kernel
theorem dX2_clear_1 : decode cX2_clear 1 = .ok (.iconst 0, 1) := by decide +kernel
theorem dX2_clear_2 : decode cX2_clear 2 = .ok (.putfield 19, 3) := by decide +kernel
theorem dX2_clear_5 : decode cX2_clear 5 = .ok (.return_, 1) := by decide +kernel
theorem dX2_remember_0 : decode cX2_remember 0 = .ok (.aload_n 0, 1) := by decide +kernel
theorem dX2_remember_1 : decode cX2_remember 1 = .ok (.getfield 11, 3) := by decide +kernel
theorem dX2_remember_4 : decode cX2_remember 4 = .ok (.aload_n 0, 1) := by decide +kernel
theorem dX2_remember_5 : decode cX2_remember 5 = .ok (.getfield 15, 3) := by decide +kernel
theorem dX2_remember_8 : decode cX2_remember 8 = .ok (.aaload, 1) := by decide +kernel
theorem dX2_remember_9 : decode cX2_remember 9 = .ok (.aload_n 1, 1) := by decide +kernel
theorem dX2_remember_10 : decode cX2_remember 10 = .ok (.invokevirtual 23, 3) := by decide +kernel
theorem dX2_remember_13 : decode cX2_remember 13 = .ok (.pop, 1) := by decide +kernel
theorem dX2_remember_14 : decode cX2_remember 14 = .ok (.aload_n 0, 1) := by decide +kernel
theorem dX2_remember_15 : decode cX2_remember 15 = .ok (.aload_n 0, 1) := by decide +kernel
theorem dX2_remember_16 : decode cX2_remember 16 = .ok (.getfield 15, 3) := by decide +kernel
theorem dX2_remember_19 : decode cX2_remember 19 = .ok (.iconst 1, 1) := by decide +kernel
theorem dX2_remember_20 : decode cX2_remember 20 = .ok (.iadd, 1) := by decide +kernel
theorem dX2_remember_21 : decode cX2_remember 21 = .ok (.bipush 30, 2) := by decide +kernel
theorem dX2_remember_23 : decode cX2_remember 23 = .ok (.irem, 1) := by decide +kernel
theorem dX2_remember_24 : decode cX2_remember 24 = .ok (.putfield 15, 3) := by decide +kernel
theorem dX2_remember_27 : decode cX2_remember 27 = .ok (.aload_n 0, 1) := by decide +kernel
theorem dX2_remember_28 : decode cX2_remember 28 = .ok (.aload_n 0, 1) := by decide +kernel
theorem dX2_remember_29 : decode cX2_remember 29 = .ok (.getfield 19, 3) := by decide +kernel
theorem dX2_remember_32 : decode cX2_remember 32 = .ok (.iconst 1, 1) := by decide +kernel
theorem dX2_remember_33 : decode cX2_remember 33 = .ok (.iadd, 1) := by decide +kernel
theorem dX2_remember_34 : decode cX2_remember 34 = .ok (.bipush 30, 2) := by decide +kernel
theorem dX2_remember_36 : decode cX2_remember 36 = .ok (.invokestatic 27, 3) := by decide +kernel
theorem dX2_remember_39 : decode cX2_remember 39 = .ok (.putfield 19, 3) := by decide +kernel
theorem dX2_remember_42 : decode cX2_remember 42 = .ok (.return_, 1) := by decide +kernel
theorem dX2_takeBack_0 : decode cX2_takeBack 0 = .ok (.aload_n 0, 1) := by decide +kernel
theorem dX2_takeBack_1 : decode cX2_takeBack 1 = .ok (.getfield 19, 3) := by decide +kernel
theorem dX2_takeBack_4 : decode cX2_takeBack 4 = .ok (.ifCond .ne 5, 3) := by decide +kernel
theorem dX2_takeBack_7 : decode cX2_takeBack 7 = .ok (.iconst 0, 1) := by decide +kernel
theorem dX2_takeBack_8 : decode cX2_takeBack 8 = .ok (.ireturn, 1) := by decide +kernel
theorem dX2_takeBack_9 : decode cX2_takeBack 9 = .ok (.aload_n 0, 1) := by decide +kernel
theorem dX2_takeBack_10 : decode cX2_takeBack 10 = .ok (.aload_n 0, 1) := by decide +kernel
theorem dX2_takeBack_11 : decode cX2_takeBack 11 = .ok (.getfield 15, 3) := by decide +kernel
theorem dX2_takeBack_14 : decode cX2_takeBack 14 = .ok (.bipush 30, 2) := by decide +kernel
theorem dX2_takeBack_16 : decode cX2_takeBack 16 = .ok (.iadd, 1) := by decide +kernel
theorem dX2_takeBack_17 : decode cX2_takeBack 17 = .ok (.iconst 1, 1) := by decide +kernel
theorem dX2_takeBack_18 : decode cX2_takeBack 18 = .ok (.isub, 1) := by decide +kernel
theorem dX2_takeBack_19 : decode cX2_takeBack 19 = .ok (.bipush 30, 2) := by decide +kernel
theorem dX2_takeBack_21 : decode cX2_takeBack 21 = .ok (.irem, 1) := by decide +kernel
theorem dX2_takeBack_22 : decode cX2_takeBack 22 = .ok (.putfield 15, 3) := by decide +kernel
theorem dX2_takeBack_25 : decode cX2_takeBack 25 = .ok (.aload_n 0, 1) := by decide +kernel
theorem dX2_takeBack_26 : decode cX2_takeBack 26 = .ok (.dup, 1) := by decide +kernel
theorem dX2_takeBack_27 : decode cX2_takeBack 27 = .ok (.getfield 19, 3) := by decide +kernel
theorem dX2_takeBack_30 : decode cX2_takeBack 30 = .ok (.iconst 1, 1) := by decide +kernel
theorem dX2_takeBack_31 : decode cX2_takeBack 31 = .ok (.isub, 1) := by decide +kernel
theorem dX2_takeBack_32 : decode cX2_takeBack 32 = .ok (.putfield 19, 3) := by decide +kernel
theorem dX2_takeBack_35 : decode cX2_takeBack 35 = .ok (.aload_n 1, 1) := by decide +kernel
theorem dX2_takeBack_36 : decode cX2_takeBack 36 = .ok (.aload_n 0, 1) := by decide +kernel
theorem dX2_takeBack_37 : decode cX2_takeBack 37 = .ok (.getfield 11, 3) := by decide +kernel
theorem dX2_takeBack_40 : decode cX2_takeBack 40 = .ok (.aload_n 0, 1) := by decide +kernel
theorem dX2_takeBack_41 : decode cX2_takeBack 41 = .ok (.getfield 15, 3) := by decide +kernel
theorem dX2_takeBack_44 : decode cX2_takeBack 44 = .ok (.aaload, 1) := by decide +kernel
theorem dX2_takeBack_45 : decode cX2_takeBack 45 = .ok (.invokevirtual 23, 3) := by decide +kernel
theorem dX2_takeBack_48 : decode cX2_takeBack 48 = .ok (.pop, 1) := by decide +kernel
theorem dX2_takeBack_49 : decode cX2_takeBack 49 = .ok (.iconst 1, 1) := by decide +kernel
theorem dX2_takeBack_50 : decode cX2_takeBack 50 = .ok (.ireturn, 1) := by decide +kernel
theorem dX3_clear_0 : decode cX3_clear 0 = .ok (.aload_n 0, 1) := by decide +kernel
theorem dX3_clear_1 : decode cX3_clear 1 = .ok (.iconst 0, 1) := by decide +kernel
theorem dX3_clear_2 : decode cX3_clear 2 = .ok (.putfield 9, 3) := by decide +kernel
theorem dX3_clear_5 : decode cX3_clear 5 = .ok (.aload_n 0, 1) := by decide +kernel
theorem dX3_clear_6 : decode cX3_clear 6 = .ok (.iconst 0, 1) := by decide +kernel
theorem dX3_clear_7 : decode cX3_clear 7 = .ok (.putfield 15, 3) := by decide +kernel
theorem dX3_clear_10 : decode cX3_clear 10 = .ok (.aload_n 0, 1) := by decide +kernel
theorem dX3_clear_11 : decode cX3_clear 11 = .ok (.iconst 0, 1) := by decide +kernel
theorem dX3_clear_12 : decode cX3_clear 12 = .ok (.putfield 18, 3) := by decide +kernel
theorem dX3_clear_15 : decode cX3_clear 15 = .ok (.aload_n 0, 1) := by decide +kernel
theorem dX3_clear_16 : decode cX3_clear 16 = .ok (.iconst 0, 1) := by decide +kernel
theorem dX3_clear_17 : decode cX3_clear 17 = .ok (.putfield 21, 3) := by decide +kernel
theorem dX3_clear_20 : decode cX3_clear 20 = .ok (.aload_n 0, 1) := by decide +kernel
theorem dX3_clear_21 : decode cX3_clear 21 = .ok (.bipush 100, 2) := by decide +kernel
theorem dX3_clear_23 : decode cX3_clear 23 = .ok (.putfield 24, 3) := by decide +kernel
theorem dX3_clear_26 : decode cX3_clear 26 = .ok (.aload_n 0, 1) := by decide +kernel
theorem dX3_clear_27 : decode cX3_clear 27 = .ok (.iconst 0, 1) := by decide +kernel
theorem dX3_clear_28 : decode cX3_clear 28 = .ok (.putfield 27, 3) := by decide +kernel
theorem dX3_clear_31 : decode cX3_clear 31 = .ok (.aload_n 0, 1) := by decide +kernel
theorem dX3_clear_32 : decode cX3_clear 32 = .ok (.iconst 0, 1) := by decide +kernel
theorem dX3_clear_33 : decode cX3_clear 33 = .ok (.putfield 30, 3) := by decide +kernel
theorem dX3_clear_36 : decode cX3_clear 36 = .ok (.aload_n 0, 1) := by decide +kernel
theorem dX3_clear_37 : decode cX3_clear 37 = .ok (.getfield 33, 3) := by decide +kernel
theorem dX3_clear_40 : decode cX3_clear 40 = .ok (.bipush (-2), 2) := by decide +kernel
theorem dX3_clear_42 : decode cX3_clear 42 = .ok (.invokestatic 68, 3) := by decide +kernel
theorem dX3_clear_45 : decode cX3_clear 45 = .ok (.aload_n 0, 1) := by decide +kernel
theorem dX3_clear_46 : decode cX3_clear 46 = .ok (.getfield 37, 3) := by decide +kernel
theorem dX3_clear_49 : decode cX3_clear 49 = .ok (.iconst 0, 1) := by decide +kernel
theorem dX3_clear_50 : decode cX3_clear 50 = .ok (.invokestatic 68, 3) := by decide +kernel
theorem dX3_clear_53 : decode cX3_clear 53 = .ok (.aload_n 0, 1) := by decide +kernel
theorem dX3_clear_54 : decode cX3_clear 54 = .ok (.getfield 55, 3) := by decide +kernel
theorem dX3_clear_57 : decode cX3_clear 57 = .ok (.iconst 1, 1) := by decide +kernel
theorem dX3_clear_58 : decode cX3_clear 58 = .ok (.invokevirtual 74, 3) := by decide +kernel
theorem dX3_clear_61 : decode cX3_clear 61 = .ok (.aload_n 0, 1) := by decide +kernel
theorem dX3_clear_62 : decode cX3_clear 62 = .ok (.getfield 59, 3) := by decide +kernel
theorem dX3_clear_65 : decode cX3_clear 65 = .ok (.iconst 1, 1) := by decide +kernel
theorem dX3_clear_66 : decode cX3_clear 66 = .ok (.invokevirtual 74, 3) := by decide +kernel
theorem dX3_clear_69 : decode cX3_clear 69 = .ok (.aload_n 0, 1) := by decide +kernel
theorem dX3_clear_70 : decode cX3_clear 70 = .ok (.getfield 62, 3) := by decide +kernel
theorem dX3_clear_73 : decode cX3_clear 73 = .ok (.iconst 0, 1) := by decide +kernel
theorem dX3_clear_74 : decode cX3_clear 74 = .ok (.invokevirtual 74, 3) := by decide +kernel
theorem dX3_clear_77 : decode cX3_clear 77 = .ok (.return_, 1) := by decide +kernel
theorem dX3_hasCell_0 : decode cX3_hasCell 0 = .ok (.iload_n 1, 1) := by decide +kernel
theorem dX3_hasCell_1 : decode cX3_hasCell 1 = .ok (.ifCond .lt 27, 3) := by decide +kernel
theorem dX3_hasCell_4 : decode cX3_hasCell 4 = .ok (.iload_n 1, 1) := by decide +kernel
theorem dX3_hasCell_5 : decode cX3_hasCell 5 = .ok (.aload_n 0, 1) := by decide +kernel
theorem dX3_hasCell_6 : decode cX3_hasCell 6 = .ok (.getfield 9, 3) := by decide +kernel
theorem dX3_hasCell_9 : decode cX3_hasCell 9 = .ok (.if_icmp .ge 19, 3) := by decide +kernel
theorem dX3_hasCell_12 : decode cX3_hasCell 12 = .ok (.iload_n 2, 1) := by decide +kernel
theorem dX3_hasCell_13 : decode cX3_hasCell 13 = .ok (.ifCond .lt 15, 3) := by decide +kernel
theorem dX3_hasCell_16 : decode cX3_hasCell 16 = .ok (.iload_n 2, 1) := by decide +kernel
theorem dX3_hasCell_17 : decode cX3_hasCell 17 = .ok (.aload_n 0, 1) := by decide +kernel
theorem dX3_hasCell_18 : decode cX3_hasCell 18 = .ok (.getfield 15, 3) := by decide +kernel
theorem dX3_hasCell_21 : decode cX3_hasCell 21 = .ok (.if_icmp .ge 7, 3) := by decide +kernel
theorem dX3_hasCell_24 : decode cX3_hasCell 24 = .ok (.iconst 1, 1) := by decide +kernel
theorem dX3_hasCell_25 : decode cX3_hasCell 25 = .ok (.goto 4, 3) := by decide +kernel
theorem dX3_hasCell_28 : decode cX3_hasCell 28 = .ok (.iconst 0, 1) := by decide +kernel
theorem dX3_hasCell_29 : decode cX3_hasCell 29 = .ok (.ireturn, 1) := by decide +kernel
theorem dX3_hasField_0 : decode cX3_hasField 0 = .ok (.iload_n 1, 1) := by decide +kernel
theorem dX3_hasField_1 : decode cX3_hasField 1 = .ok (.ifCond .lt 15, 3) := by decide +kernel
theorem dX3_hasField_4 : decode cX3_hasField 4 = .ok (.iload_n 1, 1) := by decide +kernel
theorem dX3_hasField_5 : decode cX3_hasField 5 = .ok (.aload_n 0, 1) := by decide +kernel
theorem dX3_hasField_6 : decode cX3_hasField 6 = .ok (.getfield 18, 3) := by decide +kernel
theorem dX3_hasField_9 : decode cX3_hasField 9 = .ok (.if_icmp .ge 7, 3) := by decide +kernel
theorem dX3_hasField_12 : decode cX3_hasField 12 = .ok (.iconst 1, 1) := by decide +kernel
theorem dX3_hasField_13 : decode cX3_hasField 13 = .ok (.goto 4, 3) := by decide +kernel
theorem dX3_hasField_16 : decode cX3_hasField 16 = .ok (.iconst 0, 1) := by decide +kernel
theorem dX3_hasField_17 : decode cX3_hasField 17 = .ok (.ireturn, 1) := by decide +kernel
theorem dX3_hasLoom_0 : decode cX3_hasLoom 0 = .ok (.iload_n 1, 1) := by decide +kernel
theorem dX3_hasLoom_1 : decode cX3_hasLoom 1 = .ok (.ifCond .lt 15, 3) := by decide +kernel
theorem dX3_hasLoom_4 : decode cX3_hasLoom 4 = .ok (.iload_n 1, 1) := by decide +kernel
theorem dX3_hasLoom_5 : decode cX3_hasLoom 5 = .ok (.aload_n 0, 1) := by decide +kernel
theorem dX3_hasLoom_6 : decode cX3_hasLoom 6 = .ok (.getfield 21, 3) := by decide +kernel
theorem dX3_hasLoom_9 : decode cX3_hasLoom 9 = .ok (.if_icmp .ge 7, 3) := by decide +kernel
theorem dX3_hasLoom_12 : decode cX3_hasLoom 12 = .ok (.iconst 1, 1) := by decide +kernel
theorem dX3_hasLoom_13 : decode cX3_hasLoom 13 = .ok (.goto 4, 3) := by decide +kernel
theorem dX3_hasLoom_16 : decode cX3_hasLoom 16 = .ok (.iconst 0, 1) := by decide +kernel
theorem dX3_hasLoom_17 : decode cX3_hasLoom 17 = .ok (.ireturn, 1) := by decide +kernel
theorem dX3_fieldAt_0 : decode cX3_fieldAt 0 = .ok (.aload_n 0, 1) := by decide +kernel
theorem dX3_fieldAt_1 : decode cX3_fieldAt 1 = .ok (.iload_n 1, 1) := by decide +kernel
theorem dX3_fieldAt_2 : decode cX3_fieldAt 2 = .ok (.iload_n 2, 1) := by decide +kernel
theorem dX3_fieldAt_3 : decode cX3_fieldAt 3 = .ok (.invokevirtual 78, 3) := by decide +kernel
theorem dX3_fieldAt_6 : decode cX3_fieldAt 6 = .ok (.ifCond .eq 17, 3) := by decide +kernel
theorem dX3_fieldAt_9 : decode cX3_fieldAt 9 = .ok (.aload_n 0, 1) := by decide +kernel
theorem dX3_fieldAt_10 : decode cX3_fieldAt 10 = .ok (.getfield 33, 3) := by decide +kernel
theorem dX3_fieldAt_13 : decode cX3_fieldAt 13 = .ok (.iload_n 2, 1) := by decide +kernel
theorem dX3_fieldAt_14 : decode cX3_fieldAt 14 = .ok (.bipush 8, 2) := by decide +kernel
theorem dX3_fieldAt_16 : decode cX3_fieldAt 16 = .ok (.imul, 1) := by decide +kernel
theorem dX3_fieldAt_17 : decode cX3_fieldAt 17 = .ok (.iload_n 1, 1) := by decide +kernel
theorem dX3_fieldAt_18 : decode cX3_fieldAt 18 = .ok (.iadd, 1) := by decide +kernel
theorem dX3_fieldAt_19 : decode cX3_fieldAt 19 = .ok (.iaload, 1) := by decide +kernel
theorem dX3_fieldAt_20 : decode cX3_fieldAt 20 = .ok (.goto 5, 3) := by decide +kernel
theorem dX3_fieldAt_23 : decode cX3_fieldAt 23 = .ok (.bipush (-2), 2) := by decide +kernel
theorem dX3_fieldAt_25 : decode cX3_fieldAt 25 = .ok (.ireturn, 1) := by decide +kernel
theorem dX3_lacks_0 : decode cX3_lacks 0 = .ok (.aload_n 0, 1) := by decide +kernel
theorem dX3_lacks_1 : decode cX3_lacks 1 = .ok (.iload_n 1, 1) := by decide +kernel
theorem dX3_lacks_2 : decode cX3_lacks 2 = .ok (.invokevirtual 82, 3) := by decide +kernel
theorem dX3_lacks_5 : decode cX3_lacks 5 = .ok (.ifCond .eq 17, 3) := by decide +kernel
theorem dX3_lacks_8 : decode cX3_lacks 8 = .ok (.iload_n 2, 1) := by decide +kernel
theorem dX3_lacks_9 : decode cX3_lacks 9 = .ok (.aload_n 0, 1) := by decide +kernel
theorem dX3_lacks_10 : decode cX3_lacks 10 = .ok (.getfield 40, 3) := by decide +kernel
theorem dX3_lacks_13 : decode cX3_lacks 13 = .ok (.iload_n 1, 1) := by decide +kernel
theorem dX3_lacks_14 : decode cX3_lacks 14 = .ok (.iaload, 1) := by decide +kernel
theorem dX3_lacks_15 : decode cX3_lacks 15 = .ok (.if_icmp .ge 7, 3) := by decide +kernel
theorem dX3_lacks_18 : decode cX3_lacks 18 = .ok (.iconst 1, 1) := by decide +kernel
theorem dX3_lacks_19 : decode cX3_lacks 19 = .ok (.goto 4, 3) := by decide +kernel
theorem dX3_lacks_22 : decode cX3_lacks 22 = .ok (.iconst 0, 1) := by decide +kernel
theorem dX3_lacks_23 : decode cX3_lacks 23 = .ok (.ireturn, 1) := by decide +kernel
theorem dX3_drowned_0 : decode cX3_drowned 0 = .ok (.aload_n 0, 1) := by decide +kernel
theorem dX3_drowned_1 : decode cX3_drowned 1 = .ok (.iload_n 1, 1) := by decide +kernel
theorem dX3_drowned_2 : decode cX3_drowned 2 = .ok (.invokevirtual 82, 3) := by decide +kernel
theorem dX3_drowned_5 : decode cX3_drowned 5 = .ok (.ifCond .eq 17, 3) := by decide +kernel
theorem dX3_drowned_8 : decode cX3_drowned 8 = .ok (.iload_n 2, 1) := by decide +kernel
theorem dX3_drowned_9 : decode cX3_drowned 9 = .ok (.aload_n 0, 1) := by decide +kernel
theorem dX3_drowned_10 : decode cX3_drowned 10 = .ok (.getfield 43, 3) := by decide +kernel
theorem dX3_drowned_13 : decode cX3_drowned 13 = .ok (.iload_n 1, 1) := by decide +kernel
theorem dX3_drowned_14 : decode cX3_drowned 14 = .ok (.iaload, 1) := by decide +kernel
theorem dX3_drowned_15 : decode cX3_drowned 15 = .ok (.if_icmp .le 7, 3) := by decide +kernel
theorem dX3_drowned_18 : decode cX3_drowned 18 = .ok (.iconst 1, 1) := by decide +kernel
theorem dX3_drowned_19 : decode cX3_drowned 19 = .ok (.goto 4, 3) := by decide +kernel
theorem dX3_drowned_22 : decode cX3_drowned 22 = .ok (.iconst 0, 1) := by decide +kernel
theorem dX3_drowned_23 : decode cX3_drowned 23 = .ok (.ireturn, 1) := by decide +kernel
theorem dX3_needOf_0 : decode cX3_needOf 0 = .ok (.aload_n 0, 1) := by decide +kernel
theorem dX3_needOf_1 : decode cX3_needOf 1 = .ok (.iload_n 1, 1) := by decide +kernel
theorem dX3_needOf_2 : decode cX3_needOf 2 = .ok (.invokevirtual 82, 3) := by decide +kernel
theorem dX3_needOf_5 : decode cX3_needOf 5 = .ok (.ifCond .eq 19, 3) := by decide +kernel
theorem dX3_needOf_8 : decode cX3_needOf 8 = .ok (.aload_n 0, 1) := by decide +kernel
theorem dX3_needOf_9 : decode cX3_needOf 9 = .ok (.getfield 37, 3) := by decide +kernel
theorem dX3_needOf_12 : decode cX3_needOf 12 = .ok (.iload_n 1, 1) := by decide +kernel
theorem dX3_needOf_13 : decode cX3_needOf 13 = .ok (.iaload, 1) := by decide +kernel
theorem dX3_needOf_14 : decode cX3_needOf 14 = .ok (.aload_n 0, 1) := by decide +kernel
theorem dX3_needOf_15 : decode cX3_needOf 15 = .ok (.getfield 40, 3) := by decide +kernel
theorem dX3_needOf_18 : decode cX3_needOf 18 = .ok (.iload_n 1, 1) := by decide +kernel
theorem dX3_needOf_19 : decode cX3_needOf 19 = .ok (.iaload, 1) := by decide +kernel
theorem dX3_needOf_20 : decode cX3_needOf 20 = .ok (.imul, 1) := by decide +kernel
theorem dX3_needOf_21 : decode cX3_needOf 21 = .ok (.goto 4, 3) := by decide +kernel
theorem dX3_needOf_24 : decode cX3_needOf 24 = .ok (.iconst 0, 1) := by decide +kernel
theorem dX3_needOf_25 : decode cX3_needOf 25 = .ok (.ireturn, 1) := by decide +kernel
theorem dX3_narrowest_0 : decode cX3_narrowest 0 = .ok (.bipush 8, 2) := by decide +kernel
theorem dX3_narrowest_2 : decode cX3_narrowest 2 = .ok (.istore_n 1, 1) := by decide +kernel
theorem dX3_narrowest_3 : decode cX3_narrowest 3 = .ok (.iconst 0, 1) := by decide +kernel
theorem dX3_narrowest_4 : decode cX3_narrowest 4 = .ok (.istore_n 2, 1) := by decide +kernel
theorem dX3_narrowest_5 : decode cX3_narrowest 5 = .ok (.iload_n 2, 1) := by decide +kernel
theorem dX3_narrowest_6 : decode cX3_narrowest 6 = .ok (.aload_n 0, 1) := by decide +kernel
theorem dX3_narrowest_7 : decode cX3_narrowest 7 = .ok (.getfield 21, 3) := by decide +kernel
theorem dX3_narrowest_10 : decode cX3_narrowest 10 = .ok (.if_icmp .ge 20, 3) := by decide +kernel
theorem dX3_narrowest_13 : decode cX3_narrowest 13 = .ok (.iload_n 1, 1) := by decide +kernel
theorem dX3_narrowest_14 : decode cX3_narrowest 14 = .ok (.aload_n 0, 1) := by decide +kernel
theorem dX3_narrowest_15 : decode cX3_narrowest 15 = .ok (.getfield 46, 3) := by decide +kernel
theorem dX3_narrowest_18 : decode cX3_narrowest 18 = .ok (.iload_n 2, 1) := by decide +kernel
theorem dX3_narrowest_19 : decode cX3_narrowest 19 = .ok (.iaload, 1) := by decide +kernel
theorem dX3_narrowest_20 : decode cX3_narrowest 20 = .ok (.invokestatic 86, 3) := by decide +kernel
theorem dX3_narrowest_23 : decode cX3_narrowest 23 = .ok (.istore_n 1, 1) := by decide +kernel
theorem dX3_narrowest_24 : decode cX3_narrowest 24 = .ok (.iinc 2 1, 3) := by decide +kernel
theorem dX3_narrowest_27 : decode cX3_narrowest 27 = .ok (.goto (-22), 3) := by decide +kernel
theorem dX3_narrowest_30 : decode cX3_narrowest 30 = .ok (.iload_n 1, 1) := by decide +kernel
theorem dX3_narrowest_31 : decode cX3_narrowest 31 = .ok (.ireturn, 1) := by decide +kernel
theorem dX4_readText_0 : decode cX4_readText 0 = .ok (.aload_n 0, 1) := by decide +kernel
theorem dX4_readText_1 : decode cX4_readText 1 = .ok (.getfield 12, 3) := by decide +kernel
theorem dX4_readText_4 : decode cX4_readText 4 = .ok (.aload_n 1, 1) := by decide +kernel
theorem dX4_readText_5 : decode cX4_readText 5 = .ok (.iload_n 2, 1) := by decide +kernel
theorem dX4_readText_6 : decode cX4_readText 6 = .ok (.invokevirtual 51, 3) := by decide +kernel
theorem dX4_readText_9 : decode cX4_readText 9 = .ok (.aload_n 0, 1) := by decide +kernel
theorem dX4_readText_10 : decode cX4_readText 10 = .ok (.invokevirtual 55, 3) := by decide +kernel
theorem dX4_readText_13 : decode cX4_readText 13 = .ok (.iconst 0, 1) := by decide +kernel
theorem dX4_readText_14 : decode cX4_readText 14 = .ok (.istore_n 3, 1) := by decide +kernel
theorem dX4_readText_15 : decode cX4_readText 15 = .ok (.iload_n 3, 1) := by decide +kernel
theorem dX4_readText_16 : decode cX4_readText 16 = .ok (.sipush 400, 3) := by decide +kernel
theorem dX4_readText_19 : decode cX4_readText 19 = .ok (.if_icmp .gt 29, 3) := by decide +kernel
theorem dX4_readText_22 : decode cX4_readText 22 = .ok (.aload_n 0, 1) := by decide +kernel
theorem dX4_readText_23 : decode cX4_readText 23 = .ok (.getfield 39, 3) := by decide +kernel
theorem dX4_readText_26 : decode cX4_readText 26 = .ok (.ifCond .ne 22, 3) := by decide +kernel
theorem dX4_readText_29 : decode cX4_readText 29 = .ok (.aload_n 0, 1) := by decide +kernel
theorem dX4_readText_30 : decode cX4_readText 30 = .ok (.getfield 29, 3) := by decide +kernel
theorem dX4_readText_33 : decode cX4_readText 33 = .ok (.bipush 32, 2) := by decide +kernel
theorem dX4_readText_35 : decode cX4_readText 35 = .ok (.if_icmp .eq 13, 3) := by decide +kernel
theorem dX4_readText_38 : decode cX4_readText 38 = .ok (.aload_n 0, 1) := by decide +kernel
theorem dX4_readText_39 : decode cX4_readText 39 = .ok (.invokevirtual 58, 3) := by decide +kernel
theorem dX4_readText_42 : decode cX4_readText 42 = .ok (.iinc 3 1, 3) := by decide +kernel
theorem dX4_readText_45 : decode cX4_readText 45 = .ok (.goto (-30), 3) := by decide +kernel
theorem dX4_readText_48 : decode cX4_readText 48 = .ok (.iconst 0, 1) := by decide +kernel
theorem dX4_readText_49 : decode cX4_readText 49 = .ok (.istore_n 3, 1) := by decide +kernel
theorem dX4_readText_50 : decode cX4_readText 50 = .ok (.iload_n 3, 1) := by decide +kernel
theorem dX4_readText_51 : decode cX4_readText 51 = .ok (.bipush 48, 2) := by decide +kernel
theorem dX4_readText_53 : decode cX4_readText 53 = .ok (.if_icmp .ge 35, 3) := by decide +kernel
theorem dX4_readText_56 : decode cX4_readText 56 = .ok (.aload_n 0, 1) := by decide +kernel
theorem dX4_readText_57 : decode cX4_readText 57 = .ok (.getfield 21, 3) := by decide +kernel
theorem dX4_readText_60 : decode cX4_readText 60 = .ok (.getfield 61, 3) := by decide +kernel
theorem dX4_readText_63 : decode cX4_readText 63 = .ok (.iload_n 3, 1) := by decide +kernel
theorem dX4_readText_64 : decode cX4_readText 64 = .ok (.iaload, 1) := by decide +kernel
theorem dX4_readText_65 : decode cX4_readText 65 = .ok (.aload_n 0, 1) := by decide +kernel
theorem dX4_readText_66 : decode cX4_readText 66 = .ok (.getfield 21, 3) := by decide +kernel
theorem dX4_readText_69 : decode cX4_readText 69 = .ok (.getfield 65, 3) := by decide +kernel
theorem dX4_readText_72 : decode cX4_readText 72 = .ok (.if_icmp .lt 10, 3) := by decide +kernel
theorem dX4_readText_75 : decode cX4_readText 75 = .ok (.aload_n 0, 1) := by decide +kernel
theorem dX4_readText_76 : decode cX4_readText 76 = .ok (.bipush 6, 2) := by decide +kernel
theorem dX4_readText_78 : decode cX4_readText 78 = .ok (.iload_n 2, 1) := by decide +kernel
theorem dX4_readText_79 : decode cX4_readText 79 = .ok (.invokevirtual 68, 3) := by decide +kernel
theorem dX4_readText_82 : decode cX4_readText 82 = .ok (.iinc 3 1, 3) := by decide +kernel
theorem dX4_readText_85 : decode cX4_readText 85 = .ok (.goto (-35), 3) := by decide +kernel
theorem dX4_readText_88 : decode cX4_readText 88 = .ok (.aload_n 0, 1) := by decide +kernel
theorem dX4_readText_89 : decode cX4_readText 89 = .ok (.getfield 39, 3) := by decide +kernel
theorem dX4_readText_92 : decode cX4_readText 92 = .ok (.ifCond .ne 19, 3) := by decide +kernel
theorem dX4_readText_95 : decode cX4_readText 95 = .ok (.aload_n 0, 1) := by decide +kernel
theorem dX4_readText_96 : decode cX4_readText 96 = .ok (.aload_n 0, 1) := by decide +kernel
theorem dX4_readText_97 : decode cX4_readText 97 = .ok (.getfield 45, 3) := by decide +kernel
theorem dX4_readText_100 : decode cX4_readText 100 = .ok (.putfield 39, 3) := by decide +kernel
theorem dX4_readText_103 : decode cX4_readText 103 = .ok (.aload_n 0, 1) := by decide +kernel
theorem dX4_readText_104 : decode cX4_readText 104 = .ok (.aload_n 0, 1) := by decide +kernel
theorem dX4_readText_105 : decode cX4_readText 105 = .ok (.getfield 48, 3) := by decide +kernel
theorem dX4_readText_108 : decode cX4_readText 108 = .ok (.putfield 42, 3) := by decide +kernel
theorem dX4_readText_111 : decode cX4_readText 111 = .ok (.aload_n 0, 1) := by decide +kernel
theorem dX4_readText_112 : decode cX4_readText 112 = .ok (.getfield 39, 3) := by decide +kernel
theorem dX4_readText_115 : decode cX4_readText 115 = .ok (.ireturn, 1) := by decide +kernel
theorem dX4_begin_0 : decode cX4_begin 0 = .ok (.aload_n 0, 1) := by decide +kernel
theorem dX4_begin_1 : decode cX4_begin 1 = .ok (.getfield 21, 3) := by decide +kernel
theorem dX4_begin_4 : decode cX4_begin 4 = .ok (.invokevirtual 72, 3) := by decide +kernel
theorem dX4_begin_7 : decode cX4_begin 7 = .ok (.aload_n 0, 1) := by decide +kernel
theorem dX4_begin_8 : decode cX4_begin 8 = .ok (.iconst 0, 1) := by decide +kernel
theorem dX4_begin_9 : decode cX4_begin 9 = .ok (.putfield 25, 3) := by decide +kernel
theorem dX4_begin_12 : decode cX4_begin 12 = .ok (.aload_n 0, 1) := by decide +kernel
theorem dX4_begin_13 : decode cX4_begin 13 = .ok (.aload_n 0, 1) := by decide +kernel
theorem dX4_begin_14 : decode cX4_begin 14 = .ok (.getfield 12, 3) := by decide +kernel
theorem dX4_begin_17 : decode cX4_begin 17 = .ok (.getfield 75, 3) := by decide +kernel
theorem dX4_begin_20 : decode cX4_begin 20 = .ok (.iconst 0, 1) := by decide +kernel
theorem dX4_begin_21 : decode cX4_begin 21 = .ok (.iaload, 1) := by decide +kernel
theorem dX4_begin_22 : decode cX4_begin 22 = .ok (.putfield 29, 3) := by decide +kernel
theorem dX4_begin_25 : decode cX4_begin 25 = .ok (.aload_n 0, 1) := by decide +kernel
theorem dX4_begin_26 : decode cX4_begin 26 = .ok (.iconst 0, 1) := by decide +kernel
theorem dX4_begin_27 : decode cX4_begin 27 = .ok (.putfield 36, 3) := by decide +kernel
theorem dX4_begin_30 : decode cX4_begin 30 = .ok (.aload_n 0, 1) := by decide +kernel
theorem dX4_begin_31 : decode cX4_begin 31 = .ok (.iconst 0, 1) := by decide +kernel
theorem dX4_begin_32 : decode cX4_begin 32 = .ok (.putfield 39, 3) := by decide +kernel
theorem dX4_begin_35 : decode cX4_begin 35 = .ok (.aload_n 0, 1) := by decide +kernel
theorem dX4_begin_36 : decode cX4_begin 36 = .ok (.iconst (-1), 1) := by decide +kernel
theorem dX4_begin_37 : decode cX4_begin 37 = .ok (.putfield 42, 3) := by decide +kernel
theorem dX4_begin_40 : decode cX4_begin 40 = .ok (.aload_n 0, 1) := by decide +kernel
theorem dX4_begin_41 : decode cX4_begin 41 = .ok (.iconst 0, 1) := by decide +kernel
theorem dX4_begin_42 : decode cX4_begin 42 = .ok (.putfield 45, 3) := by decide +kernel
theorem dX4_begin_45 : decode cX4_begin 45 = .ok (.aload_n 0, 1) := by decide +kernel
theorem dX4_begin_46 : decode cX4_begin 46 = .ok (.iconst (-1), 1) := by decide +kernel
theorem dX4_begin_47 : decode cX4_begin 47 = .ok (.putfield 48, 3) := by decide +kernel
theorem dX4_begin_50 : decode cX4_begin 50 = .ok (.return_, 1) := by decide +kernel
theorem dX4_blame_0 : decode cX4_blame 0 = .ok (.aload_n 0, 1) := by decide +kernel
theorem dX4_blame_1 : decode cX4_blame 1 = .ok (.getfield 39, 3) := by decide +kernel
theorem dX4_blame_4 : decode cX4_blame 4 = .ok (.ifCond .ne 24, 3) := by decide +kernel
theorem dX4_blame_7 : decode cX4_blame 7 = .ok (.aload_n 0, 1) := by decide +kernel
theorem dX4_blame_8 : decode cX4_blame 8 = .ok (.iload_n 1, 1) := by decide +kernel
theorem dX4_blame_9 : decode cX4_blame 9 = .ok (.putfield 39, 3) := by decide +kernel
theorem dX4_blame_12 : decode cX4_blame 12 = .ok (.aload_n 0, 1) := by decide +kernel
theorem dX4_blame_13 : decode cX4_blame 13 = .ok (.aload_n 0, 1) := by decide +kernel
theorem dX4_blame_14 : decode cX4_blame 14 = .ok (.getfield 12, 3) := by decide +kernel
theorem dX4_blame_17 : decode cX4_blame 17 = .ok (.getfield 78, 3) := by decide +kernel
theorem dX4_blame_20 : decode cX4_blame 20 = .ok (.aload_n 0, 1) := by decide +kernel
theorem dX4_blame_21 : decode cX4_blame 21 = .ok (.getfield 25, 3) := by decide +kernel
theorem dX4_blame_24 : decode cX4_blame 24 = .ok (.iaload, 1) := by decide +kernel
theorem dX4_blame_25 : decode cX4_blame 25 = .ok (.putfield 42, 3) := by decide +kernel
theorem dX4_blame_28 : decode cX4_blame 28 = .ok (.return_, 1) := by decide +kernel
theorem dX4_blameLater_0 : decode cX4_blameLater 0 = .ok (.aload_n 0, 1) := by decide +kernel
theorem dX4_blameLater_1 : decode cX4_blameLater 1 = .ok (.getfield 45, 3) := by decide +kernel
theorem dX4_blameLater_4 : decode cX4_blameLater 4 = .ok (.ifCond .ne 13, 3) := by decide +kernel
theorem dX4_blameLater_7 : decode cX4_blameLater 7 = .ok (.aload_n 0, 1) := by decide +kernel
theorem dX4_blameLater_8 : decode cX4_blameLater 8 = .ok (.iload_n 1, 1) := by decide +kernel
theorem dX4_blameLater_9 : decode cX4_blameLater 9 = .ok (.putfield 45, 3) := by decide +kernel
theorem dX4_blameLater_12 : decode cX4_blameLater 12 = .ok (.aload_n 0, 1) := by decide +kernel
theorem dX4_blameLater_13 : decode cX4_blameLater 13 = .ok (.iload_n 2, 1) := by decide +kernel
theorem dX4_blameLater_14 : decode cX4_blameLater 14 = .ok (.putfield 48, 3) := by decide +kernel
theorem dX4_blameLater_17 : decode cX4_blameLater 17 = .ok (.return_, 1) := by decide +kernel
theorem dX4_start_0 : decode cX4_start 0 = .ok (.aload_n 0, 1) := by decide +kernel
theorem dX4_start_1 : decode cX4_start 1 = .ok (.getfield 12, 3) := by decide +kernel
theorem dX4_start_4 : decode cX4_start 4 = .ok (.getfield 78, 3) := by decide +kernel
theorem dX4_start_7 : decode cX4_start 7 = .ok (.aload_n 0, 1) := by decide +kernel
theorem dX4_start_8 : decode cX4_start 8 = .ok (.getfield 25, 3) := by decide +kernel
theorem dX4_start_11 : decode cX4_start 11 = .ok (.iaload, 1) := by decide +kernel
theorem dX4_start_12 : decode cX4_start 12 = .ok (.ireturn, 1) := by decide +kernel
theorem dX4_value_0 : decode cX4_value 0 = .ok (.aload_n 0, 1) := by decide +kernel
theorem dX4_value_1 : decode cX4_value 1 = .ok (.getfield 12, 3) := by decide +kernel
theorem dX4_value_4 : decode cX4_value 4 = .ok (.getfield 81, 3) := by decide +kernel
theorem dX4_value_7 : decode cX4_value 7 = .ok (.aload_n 0, 1) := by decide +kernel
theorem dX4_value_8 : decode cX4_value 8 = .ok (.getfield 25, 3) := by decide +kernel
theorem dX4_value_11 : decode cX4_value 11 = .ok (.laload, 1) := by decide +kernel
theorem dX4_value_12 : decode cX4_value 12 = .ok (.lreturn, 1) := by decide +kernel
theorem dX4_accept_0 : decode cX4_accept 0 = .ok (.aload_n 0, 1) := by decide +kernel
theorem dX4_accept_1 : decode cX4_accept 1 = .ok (.getfield 29, 3) := by decide +kernel
theorem dX4_accept_4 : decode cX4_accept 4 = .ok (.iload_n 1, 1) := by decide +kernel
theorem dX4_accept_5 : decode cX4_accept 5 = .ok (.if_icmp .eq 11, 3) := by decide +kernel
theorem dX4_accept_8 : decode cX4_accept 8 = .ok (.aload_n 0, 1) := by decide +kernel
theorem dX4_accept_9 : decode cX4_accept 9 = .ok (.iconst 1, 1) := by decide +kernel
theorem dX4_accept_10 : decode cX4_accept 10 = .ok (.invokevirtual 84, 3) := by decide +kernel
theorem dX4_accept_13 : decode cX4_accept 13 = .ok (.goto 18, 3) := by decide +kernel
theorem dX4_accept_16 : decode cX4_accept 16 = .ok (.aload_n 0, 1) := by decide +kernel
theorem dX4_accept_17 : decode cX4_accept 17 = .ok (.getfield 25, 3) := by decide +kernel
theorem dX4_accept_20 : decode cX4_accept 20 = .ok (.sipush 400, 3) := by decide +kernel
theorem dX4_accept_23 : decode cX4_accept 23 = .ok (.if_icmp .lt 8, 3) := by decide +kernel
theorem dX4_accept_26 : decode cX4_accept 26 = .ok (.aload_n 0, 1) := by decide +kernel
theorem dX4_accept_27 : decode cX4_accept 27 = .ok (.iconst 2, 1) := by decide +kernel
theorem dX4_accept_28 : decode cX4_accept 28 = .ok (.invokevirtual 84, 3) := by decide +kernel
theorem dX4_accept_31 : decode cX4_accept 31 = .ok (.aload_n 0, 1) := by decide +kernel
theorem dX4_accept_32 : decode cX4_accept 32 = .ok (.getfield 39, 3) := by decide +kernel
theorem dX4_accept_35 : decode cX4_accept 35 = .ok (.ifCond .eq 5, 3) := by decide +kernel
theorem dX4_accept_38 : decode cX4_accept 38 = .ok (.iconst 0, 1) := by decide +kernel
theorem dX4_accept_39 : decode cX4_accept 39 = .ok (.ireturn, 1) := by decide +kernel
theorem dX4_accept_40 : decode cX4_accept 40 = .ok (.aload_n 0, 1) := by decide +kernel
theorem dX4_accept_41 : decode cX4_accept 41 = .ok (.dup, 1) := by decide +kernel
theorem dX4_accept_42 : decode cX4_accept 42 = .ok (.getfield 25, 3) := by decide +kernel
theorem dX4_accept_45 : decode cX4_accept 45 = .ok (.iconst 1, 1) := by decide +kernel
theorem dX4_accept_46 : decode cX4_accept 46 = .ok (.iadd, 1) := by decide +kernel
theorem dX4_accept_47 : decode cX4_accept 47 = .ok (.putfield 25, 3) := by decide +kernel
theorem dX4_accept_50 : decode cX4_accept 50 = .ok (.aload_n 0, 1) := by decide +kernel
theorem dX4_accept_51 : decode cX4_accept 51 = .ok (.aload_n 0, 1) := by decide +kernel
theorem dX4_accept_52 : decode cX4_accept 52 = .ok (.getfield 12, 3) := by decide +kernel
theorem dX4_accept_55 : decode cX4_accept 55 = .ok (.getfield 75, 3) := by decide +kernel
theorem dX4_accept_58 : decode cX4_accept 58 = .ok (.aload_n 0, 1) := by decide +kernel
theorem dX4_accept_59 : decode cX4_accept 59 = .ok (.getfield 25, 3) := by decide +kernel
theorem dX4_accept_62 : decode cX4_accept 62 = .ok (.iaload, 1) := by decide +kernel
theorem dX4_accept_63 : decode cX4_accept 63 = .ok (.putfield 29, 3) := by decide +kernel
theorem dX4_accept_66 : decode cX4_accept 66 = .ok (.iconst 1, 1) := by decide +kernel
theorem dX4_accept_67 : decode cX4_accept 67 = .ok (.ireturn, 1) := by decide +kernel
theorem dX4_readTell_0 : decode cX4_readTell 0 = .ok (.aload_n 0, 1) := by decide +kernel
theorem dX4_readTell_1 : decode cX4_readTell 1 = .ok (.getfield 29, 3) := by decide +kernel
theorem dX4_readTell_4 : decode cX4_readTell 4 = .ok (.tableswitch 189 0 8 #[52, 59, 66, 73, 87, 101, 115, 140, 164], 52) := by decide +kernel
theorem dX4_readTell_56 : decode cX4_readTell 56 = .ok (.aload_n 0, 1) := by decide +kernel
theorem dX4_readTell_57 : decode cX4_readTell 57 = .ok (.invokevirtual 88, 3) := by decide +kernel
theorem dX4_readTell_60 : decode cX4_readTell 60 = .ok (.goto 138, 3) := by decide +kernel
theorem dX4_readTell_63 : decode cX4_readTell 63 = .ok (.aload_n 0, 1) := by decide +kernel
theorem dX4_readTell_64 : decode cX4_readTell 64 = .ok (.invokevirtual 91, 3) := by decide +kernel
theorem dX4_readTell_67 : decode cX4_readTell 67 = .ok (.goto 131, 3) := by decide +kernel
theorem dX4_readTell_70 : decode cX4_readTell 70 = .ok (.aload_n 0, 1) := by decide +kernel
theorem dX4_readTell_71 : decode cX4_readTell 71 = .ok (.invokevirtual 94, 3) := by decide +kernel
theorem dX4_readTell_74 : decode cX4_readTell 74 = .ok (.goto 124, 3) := by decide +kernel
theorem dX4_readTell_77 : decode cX4_readTell 77 = .ok (.aload_n 0, 1) := by decide +kernel
theorem dX4_readTell_78 : decode cX4_readTell 78 = .ok (.aload_n 0, 1) := by decide +kernel
theorem dX4_readTell_79 : decode cX4_readTell 79 = .ok (.getfield 21, 3) := by decide +kernel
theorem dX4_readTell_82 : decode cX4_readTell 82 = .ok (.getfield 97, 3) := by decide +kernel
theorem dX4_readTell_85 : decode cX4_readTell 85 = .ok (.invokevirtual 101, 3) := by decide +kernel
theorem dX4_readTell_88 : decode cX4_readTell 88 = .ok (.goto 110, 3) := by decide +kernel
theorem dX4_readTell_91 : decode cX4_readTell 91 = .ok (.aload_n 0, 1) := by decide +kernel
theorem dX4_readTell_92 : decode cX4_readTell 92 = .ok (.aload_n 0, 1) := by decide +kernel
theorem dX4_readTell_93 : decode cX4_readTell 93 = .ok (.getfield 21, 3) := by decide +kernel
theorem dX4_readTell_96 : decode cX4_readTell 96 = .ok (.getfield 105, 3) := by decide +kernel
theorem dX4_readTell_99 : decode cX4_readTell 99 = .ok (.invokevirtual 101, 3) := by decide +kernel
theorem dX4_readTell_102 : decode cX4_readTell 102 = .ok (.goto 96, 3) := by decide +kernel
theorem dX4_readTell_105 : decode cX4_readTell 105 = .ok (.aload_n 0, 1) := by decide +kernel
theorem dX4_readTell_106 : decode cX4_readTell 106 = .ok (.aload_n 0, 1) := by decide +kernel
theorem dX4_readTell_107 : decode cX4_readTell 107 = .ok (.getfield 21, 3) := by decide +kernel
theorem dX4_readTell_110 : decode cX4_readTell 110 = .ok (.getfield 108, 3) := by decide +kernel
theorem dX4_readTell_113 : decode cX4_readTell 113 = .ok (.invokevirtual 101, 3) := by decide +kernel
theorem dX4_readTell_116 : decode cX4_readTell 116 = .ok (.goto 82, 3) := by decide +kernel
theorem dX4_readTell_119 : decode cX4_readTell 119 = .ok (.aload_n 0, 1) := by decide +kernel
theorem dX4_readTell_120 : decode cX4_readTell 120 = .ok (.bipush 6, 2) := by decide +kernel
theorem dX4_readTell_122 : decode cX4_readTell 122 = .ok (.invokevirtual 111, 3) := by decide +kernel
theorem dX4_readTell_125 : decode cX4_readTell 125 = .ok (.pop, 1) := by decide +kernel
theorem dX4_readTell_126 : decode cX4_readTell 126 = .ok (.aload_n 0, 1) := by decide +kernel
theorem dX4_readTell_127 : decode cX4_readTell 127 = .ok (.getfield 21, 3) := by decide +kernel
theorem dX4_readTell_130 : decode cX4_readTell 130 = .ok (.aload_n 0, 1) := by decide +kernel
theorem dX4_readTell_131 : decode cX4_readTell 131 = .ok (.iconst 0, 1) := by decide +kernel
theorem dX4_readTell_132 : decode cX4_readTell 132 = .ok (.sipush 9999, 3) := by decide +kernel
theorem dX4_readTell_135 : decode cX4_readTell 135 = .ok (.invokevirtual 115, 3) := by decide +kernel
theorem dX4_readTell_138 : decode cX4_readTell 138 = .ok (.putfield 119, 3) := by decide +kernel
theorem dX4_readTell_141 : decode cX4_readTell 141 = .ok (.goto 57, 3) := by decide +kernel
theorem dX4_readTell_144 : decode cX4_readTell 144 = .ok (.aload_n 0, 1) := by decide +kernel
theorem dX4_readTell_145 : decode cX4_readTell 145 = .ok (.bipush 7, 2) := by decide +kernel
theorem dX4_readTell_147 : decode cX4_readTell 147 = .ok (.invokevirtual 111, 3) := by decide +kernel
theorem dX4_readTell_150 : decode cX4_readTell 150 = .ok (.pop, 1) := by decide +kernel
theorem dX4_readTell_151 : decode cX4_readTell 151 = .ok (.aload_n 0, 1) := by decide +kernel
theorem dX4_readTell_152 : decode cX4_readTell 152 = .ok (.getfield 21, 3) := by decide +kernel
theorem dX4_readTell_155 : decode cX4_readTell 155 = .ok (.aload_n 0, 1) := by decide +kernel
theorem dX4_readTell_156 : decode cX4_readTell 156 = .ok (.iconst 0, 1) := by decide +kernel
theorem dX4_readTell_157 : decode cX4_readTell 157 = .ok (.bipush 100, 2) := by decide +kernel
theorem dX4_readTell_159 : decode cX4_readTell 159 = .ok (.invokevirtual 115, 3) := by decide +kernel
theorem dX4_readTell_162 : decode cX4_readTell 162 = .ok (.putfield 122, 3) := by decide +kernel
theorem dX4_readTell_165 : decode cX4_readTell 165 = .ok (.goto 33, 3) := by decide +kernel
theorem dX4_readTell_168 : decode cX4_readTell 168 = .ok (.aload_n 0, 1) := by decide +kernel
theorem dX4_readTell_169 : decode cX4_readTell 169 = .ok (.bipush 8, 2) := by decide +kernel
theorem dX4_readTell_171 : decode cX4_readTell 171 = .ok (.invokevirtual 111, 3) := by decide +kernel
theorem dX4_readTell_174 : decode cX4_readTell 174 = .ok (.pop, 1) := by decide +kernel
theorem dX4_readTell_175 : decode cX4_readTell 175 = .ok (.aload_n 0, 1) := by decide +kernel
theorem dX4_readTell_176 : decode cX4_readTell 176 = .ok (.getfield 21, 3) := by decide +kernel
theorem dX4_readTell_179 : decode cX4_readTell 179 = .ok (.aload_n 0, 1) := by decide +kernel
theorem dX4_readTell_180 : decode cX4_readTell 180 = .ok (.iconst 0, 1) := by decide +kernel
theorem dX4_readTell_181 : decode cX4_readTell 181 = .ok (.sipush 9999, 3) := by decide +kernel
theorem dX4_readTell_184 : decode cX4_readTell 184 = .ok (.invokevirtual 115, 3) := by decide +kernel
theorem dX4_readTell_187 : decode cX4_readTell 187 = .ok (.putfield 125, 3) := by decide +kernel
theorem dX4_readTell_190 : decode cX4_readTell 190 = .ok (.goto 8, 3) := by decide +kernel
theorem dX4_readTell_193 : decode cX4_readTell 193 = .ok (.aload_n 0, 1) := by decide +kernel
theorem dX4_readTell_194 : decode cX4_readTell 194 = .ok (.iconst 1, 1) := by decide +kernel
theorem dX4_readTell_195 : decode cX4_readTell 195 = .ok (.invokevirtual 84, 3) := by decide +kernel
theorem dX4_readTell_198 : decode cX4_readTell 198 = .ok (.aload_n 0, 1) := by decide +kernel
theorem dX4_readTell_199 : decode cX4_readTell 199 = .ok (.bipush 23, 2) := by decide +kernel
theorem dX4_readTell_201 : decode cX4_readTell 201 = .ok (.invokevirtual 111, 3) := by decide +kernel
theorem dX4_readTell_204 : decode cX4_readTell 204 = .ok (.pop, 1) := by decide +kernel
theorem dX4_readTell_205 : decode cX4_readTell 205 = .ok (.return_, 1) := by decide +kernel
theorem dX4_readInt_0 : decode cX4_readInt 0 = .ok (.aload_n 0, 1) := by decide +kernel
theorem dX4_readInt_1 : decode cX4_readInt 1 = .ok (.invokevirtual 128, 3) := by decide +kernel
theorem dX4_readInt_4 : decode cX4_readInt 4 = .ok (.l2i, 1) := by decide +kernel
theorem dX4_readInt_5 : decode cX4_readInt 5 = .ok (.istore_n 3, 1) := by decide +kernel
theorem dX4_readInt_6 : decode cX4_readInt 6 = .ok (.aload_n 0, 1) := by decide +kernel
theorem dX4_readInt_7 : decode cX4_readInt 7 = .ok (.invokevirtual 132, 3) := by decide +kernel
theorem dX4_readInt_10 : decode cX4_readInt 10 = .ok (.istore 4, 2) := by decide +kernel
theorem dX4_readInt_12 : decode cX4_readInt 12 = .ok (.aload_n 0, 1) := by decide +kernel
theorem dX4_readInt_13 : decode cX4_readInt 13 = .ok (.bipush 22, 2) := by decide +kernel
theorem dX4_readInt_15 : decode cX4_readInt 15 = .ok (.invokevirtual 111, 3) := by decide +kernel
theorem dX4_readInt_18 : decode cX4_readInt 18 = .ok (.ifCond .eq 20, 3) := by decide +kernel
theorem dX4_readInt_21 : decode cX4_readInt 21 = .ok (.iload_n 3, 1) := by decide +kernel
theorem dX4_readInt_22 : decode cX4_readInt 22 = .ok (.iload_n 1, 1) := by decide +kernel
theorem dX4_readInt_23 : decode cX4_readInt 23 = .ok (.if_icmp .lt 8, 3) := by decide +kernel
theorem dX4_readInt_26 : decode cX4_readInt 26 = .ok (.iload_n 3, 1) := by decide +kernel
theorem dX4_readInt_27 : decode cX4_readInt 27 = .ok (.iload_n 2, 1) := by decide +kernel
theorem dX4_readInt_28 : decode cX4_readInt 28 = .ok (.if_icmp .le 10, 3) := by decide +kernel
theorem dX4_readInt_31 : decode cX4_readInt 31 = .ok (.aload_n 0, 1) := by decide +kernel
theorem dX4_readInt_32 : decode cX4_readInt 32 = .ok (.iconst 5, 1) := by decide +kernel
theorem dX4_readInt_33 : decode cX4_readInt 33 = .ok (.iload 4, 2) := by decide +kernel
theorem dX4_readInt_35 : decode cX4_readInt 35 = .ok (.invokevirtual 68, 3) := by decide +kernel
theorem dX4_readInt_38 : decode cX4_readInt 38 = .ok (.iload_n 3, 1) := by decide +kernel
theorem dX4_readInt_39 : decode cX4_readInt 39 = .ok (.ireturn, 1) := by decide +kernel
theorem dX4_readName_0 : decode cX4_readName 0 = .ok (.aload_n 0, 1) := by decide +kernel
theorem dX4_readName_1 : decode cX4_readName 1 = .ok (.invokevirtual 128, 3) := by decide +kernel
theorem dX4_readName_4 : decode cX4_readName 4 = .ok (.lstore_n 1, 1) := by decide +kernel
theorem dX4_readName_5 : decode cX4_readName 5 = .ok (.aload_n 0, 1) := by decide +kernel
theorem dX4_readName_6 : decode cX4_readName 6 = .ok (.invokevirtual 132, 3) := by decide +kernel
theorem dX4_readName_9 : decode cX4_readName 9 = .ok (.istore_n 3, 1) := by decide +kernel
theorem dX4_readName_10 : decode cX4_readName 10 = .ok (.aload_n 0, 1) := by decide +kernel
theorem dX4_readName_11 : decode cX4_readName 11 = .ok (.bipush 21, 2) := by decide +kernel
theorem dX4_readName_13 : decode cX4_readName 13 = .ok (.invokevirtual 111, 3) := by decide +kernel
theorem dX4_readName_16 : decode cX4_readName 16 = .ok (.ifCond .ne 4, 3) := by decide +kernel
theorem dX4_readName_19 : decode cX4_readName 19 = .ok (.return_, 1) := by decide +kernel
theorem dX4_readName_20 : decode cX4_readName 20 = .ok (.iconst 0, 1) := by decide +kernel
theorem dX4_readName_21 : decode cX4_readName 21 = .ok (.istore 4, 2) := by decide +kernel
theorem dX4_readName_23 : decode cX4_readName 23 = .ok (.iload 4, 2) := by decide +kernel
theorem dX4_readName_25 : decode cX4_readName 25 = .ok (.aload_n 0, 1) := by decide +kernel
theorem dX4_readName_26 : decode cX4_readName 26 = .ok (.getfield 36, 3) := by decide +kernel
theorem dX4_readName_29 : decode cX4_readName 29 = .ok (.if_icmp .ge 27, 3) := by decide +kernel
theorem dX4_readName_32 : decode cX4_readName 32 = .ok (.aload_n 0, 1) := by decide +kernel
theorem dX4_readName_33 : decode cX4_readName 33 = .ok (.getfield 32, 3) := by decide +kernel
theorem dX4_readName_36 : decode cX4_readName 36 = .ok (.iload 4, 2) := by decide +kernel
theorem dX4_readName_38 : decode cX4_readName 38 = .ok (.laload, 1) := by decide +kernel
theorem dX4_readName_39 : decode cX4_readName 39 = .ok (.lload_n 1, 1) := by decide +kernel
theorem dX4_readName_40 : decode cX4_readName 40 = .ok (.lcmp, 1) := by decide +kernel
theorem dX4_readName_41 : decode cX4_readName 41 = .ok (.ifCond .ne 9, 3) := by decide +kernel
theorem dX4_readName_44 : decode cX4_readName 44 = .ok (.aload_n 0, 1) := by decide +kernel
theorem dX4_readName_45 : decode cX4_readName 45 = .ok (.iconst 3, 1) := by decide +kernel
theorem dX4_readName_46 : decode cX4_readName 46 = .ok (.iload_n 3, 1) := by decide +kernel
theorem dX4_readName_47 : decode cX4_readName 47 = .ok (.invokevirtual 68, 3) := by decide +kernel
theorem dX4_readName_50 : decode cX4_readName 50 = .ok (.iinc 4 1, 3) := by decide +kernel
theorem dX4_readName_53 : decode cX4_readName 53 = .ok (.goto (-30), 3) := by decide +kernel
theorem dX4_readName_56 : decode cX4_readName 56 = .ok (.aload_n 0, 1) := by decide +kernel
theorem dX4_readName_57 : decode cX4_readName 57 = .ok (.getfield 36, 3) := by decide +kernel
theorem dX4_readName_60 : decode cX4_readName 60 = .ok (.aload_n 0, 1) := by decide +kernel
theorem dX4_readName_61 : decode cX4_readName 61 = .ok (.getfield 32, 3) := by decide +kernel
theorem dX4_readName_64 : decode cX4_readName 64 = .ok (.arraylength, 1) := by decide +kernel
theorem dX4_readName_65 : decode cX4_readName 65 = .ok (.if_icmp .ge 23, 3) := by decide +kernel
theorem dX4_readName_68 : decode cX4_readName 68 = .ok (.aload_n 0, 1) := by decide +kernel
theorem dX4_readName_69 : decode cX4_readName 69 = .ok (.getfield 32, 3) := by decide +kernel
theorem dX4_readName_72 : decode cX4_readName 72 = .ok (.aload_n 0, 1) := by decide +kernel
theorem dX4_readName_73 : decode cX4_readName 73 = .ok (.getfield 36, 3) := by decide +kernel
theorem dX4_readName_76 : decode cX4_readName 76 = .ok (.lload_n 1, 1) := by decide +kernel
theorem dX4_readName_77 : decode cX4_readName 77 = .ok (.lastore, 1) := by decide +kernel
theorem dX4_readName_78 : decode cX4_readName 78 = .ok (.aload_n 0, 1) := by decide +kernel
theorem dX4_readName_79 : decode cX4_readName 79 = .ok (.dup, 1) := by decide +kernel
theorem dX4_readName_80 : decode cX4_readName 80 = .ok (.getfield 36, 3) := by decide +kernel
theorem dX4_readName_83 : decode cX4_readName 83 = .ok (.iconst 1, 1) := by decide +kernel
theorem dX4_readName_84 : decode cX4_readName 84 = .ok (.iadd, 1) := by decide +kernel
theorem dX4_readName_85 : decode cX4_readName 85 = .ok (.putfield 36, 3) := by decide +kernel
theorem dX4_readName_88 : decode cX4_readName 88 = .ok (.return_, 1) := by decide +kernel
theorem dX4_readRow_0 : decode cX4_readRow 0 = .ok (.aload_n 0, 1) := by decide +kernel
theorem dX4_readRow_1 : decode cX4_readRow 1 = .ok (.getfield 21, 3) := by decide +kernel
theorem dX4_readRow_4 : decode cX4_readRow 4 = .ok (.getfield 136, 3) := by decide +kernel
theorem dX4_readRow_7 : decode cX4_readRow 7 = .ok (.bipush 6, 2) := by decide +kernel
theorem dX4_readRow_9 : decode cX4_readRow 9 = .ok (.if_icmp .lt 9, 3) := by decide +kernel
theorem dX4_readRow_12 : decode cX4_readRow 12 = .ok (.aload_n 0, 1) := by decide +kernel
theorem dX4_readRow_13 : decode cX4_readRow 13 = .ok (.iconst 2, 1) := by decide +kernel
theorem dX4_readRow_14 : decode cX4_readRow 14 = .ok (.invokevirtual 84, 3) := by decide +kernel
theorem dX4_readRow_17 : decode cX4_readRow 17 = .ok (.return_, 1) := by decide +kernel
theorem dX4_readRow_18 : decode cX4_readRow 18 = .ok (.aload_n 0, 1) := by decide +kernel
theorem dX4_readRow_19 : decode cX4_readRow 19 = .ok (.iconst 0, 1) := by decide +kernel
theorem dX4_readRow_20 : decode cX4_readRow 20 = .ok (.invokevirtual 111, 3) := by decide +kernel
theorem dX4_readRow_23 : decode cX4_readRow 23 = .ok (.pop, 1) := by decide +kernel
theorem dX4_readRow_24 : decode cX4_readRow 24 = .ok (.aload_n 0, 1) := by decide +kernel
theorem dX4_readRow_25 : decode cX4_readRow 25 = .ok (.invokevirtual 128, 3) := by decide +kernel
theorem dX4_readRow_28 : decode cX4_readRow 28 = .ok (.lstore_n 1, 1) := by decide +kernel
theorem dX4_readRow_29 : decode cX4_readRow 29 = .ok (.aload_n 0, 1) := by decide +kernel
theorem dX4_readRow_30 : decode cX4_readRow 30 = .ok (.invokevirtual 132, 3) := by decide +kernel
theorem dX4_readRow_33 : decode cX4_readRow 33 = .ok (.istore_n 3, 1) := by decide +kernel
theorem dX4_readRow_34 : decode cX4_readRow 34 = .ok (.aload_n 0, 1) := by decide +kernel
theorem dX4_readRow_35 : decode cX4_readRow 35 = .ok (.bipush 21, 2) := by decide +kernel
theorem dX4_readRow_37 : decode cX4_readRow 37 = .ok (.invokevirtual 111, 3) := by decide +kernel
theorem dX4_readRow_40 : decode cX4_readRow 40 = .ok (.ifCond .eq 9, 3) := by decide +kernel
theorem dX4_readRow_43 : decode cX4_readRow 43 = .ok (.aload_n 0, 1) := by decide +kernel
theorem dX4_readRow_44 : decode cX4_readRow 44 = .ok (.lload_n 1, 1) := by decide +kernel
theorem dX4_readRow_45 : decode cX4_readRow 45 = .ok (.iload_n 3, 1) := by decide +kernel
theorem dX4_readRow_46 : decode cX4_readRow 46 = .ok (.invokevirtual 139, 3) := by decide +kernel
theorem dX4_readRow_49 : decode cX4_readRow 49 = .ok (.return_, 1) := by decide +kernel
theorem dX4_layRow_0 : decode cX4_layRow 0 = .ok (.lload_n 1, 1) := by decide +kernel
theorem dX4_layRow_1 : decode cX4_layRow 1 = .ok (.invokestatic 143, 3) := by decide +kernel
theorem dX4_layRow_4 : decode cX4_layRow 4 = .ok (.istore 4, 2) := by decide +kernel
theorem dX4_layRow_6 : decode cX4_layRow 6 = .ok (.aload_n 0, 1) := by decide +kernel
theorem dX4_layRow_7 : decode cX4_layRow 7 = .ok (.getfield 21, 3) := by decide +kernel
theorem dX4_layRow_10 : decode cX4_layRow 10 = .ok (.getfield 136, 3) := by decide +kernel
theorem dX4_layRow_13 : decode cX4_layRow 13 = .ok (.ifCond .ne 12, 3) := by decide +kernel
theorem dX4_layRow_16 : decode cX4_layRow 16 = .ok (.aload_n 0, 1) := by decide +kernel
theorem dX4_layRow_17 : decode cX4_layRow 17 = .ok (.getfield 21, 3) := by decide +kernel
theorem dX4_layRow_20 : decode cX4_layRow 20 = .ok (.iload 4, 2) := by decide +kernel
theorem dX4_layRow_22 : decode cX4_layRow 22 = .ok (.putfield 147, 3) := by decide +kernel
theorem dX4_layRow_25 : decode cX4_layRow 25 = .ok (.iload 4, 2) := by decide +kernel
theorem dX4_layRow_27 : decode cX4_layRow 27 = .ok (.aload_n 0, 1) := by decide +kernel
theorem dX4_layRow_28 : decode cX4_layRow 28 = .ok (.getfield 21, 3) := by decide +kernel
theorem dX4_layRow_31 : decode cX4_layRow 31 = .ok (.getfield 147, 3) := by decide +kernel
theorem dX4_layRow_34 : decode cX4_layRow 34 = .ok (.if_icmp .eq 10, 3) := by decide +kernel
theorem dX4_layRow_37 : decode cX4_layRow 37 = .ok (.aload_n 0, 1) := by decide +kernel
theorem dX4_layRow_38 : decode cX4_layRow 38 = .ok (.bipush 6, 2) := by decide +kernel
theorem dX4_layRow_40 : decode cX4_layRow 40 = .ok (.iload_n 3, 1) := by decide +kernel
theorem dX4_layRow_41 : decode cX4_layRow 41 = .ok (.invokevirtual 68, 3) := by decide +kernel
theorem dX4_layRow_44 : decode cX4_layRow 44 = .ok (.iconst 0, 1) := by decide +kernel
theorem dX4_layRow_45 : decode cX4_layRow 45 = .ok (.istore 5, 2) := by decide +kernel
theorem dX4_layRow_47 : decode cX4_layRow 47 = .ok (.iload 5, 2) := by decide +kernel
theorem dX4_layRow_49 : decode cX4_layRow 49 = .ok (.iload 4, 2) := by decide +kernel
theorem dX4_layRow_51 : decode cX4_layRow 51 = .ok (.if_icmp .ge 102, 3) := by decide +kernel
theorem dX4_layRow_54 : decode cX4_layRow 54 = .ok (.iload 5, 2) := by decide +kernel
theorem dX4_layRow_56 : decode cX4_layRow 56 = .ok (.bipush 8, 2) := by decide +kernel
theorem dX4_layRow_58 : decode cX4_layRow 58 = .ok (.if_icmp .ge 95, 3) := by decide +kernel
theorem dX4_layRow_61 : decode cX4_layRow 61 = .ok (.lload_n 1, 1) := by decide +kernel
theorem dX4_layRow_62 : decode cX4_layRow 62 = .ok (.iload 4, 2) := by decide +kernel
theorem dX4_layRow_64 : decode cX4_layRow 64 = .ok (.iconst 1, 1) := by decide +kernel
theorem dX4_layRow_65 : decode cX4_layRow 65 = .ok (.isub, 1) := by decide +kernel
theorem dX4_layRow_66 : decode cX4_layRow 66 = .ok (.iload 5, 2) := by decide +kernel
theorem dX4_layRow_68 : decode cX4_layRow 68 = .ok (.isub, 1) := by decide +kernel
theorem dX4_layRow_69 : decode cX4_layRow 69 = .ok (.invokestatic 150, 3) := by decide +kernel
theorem dX4_layRow_72 : decode cX4_layRow 72 = .ok (.istore 6, 2) := by decide +kernel
theorem dX4_layRow_74 : decode cX4_layRow 74 = .ok (.iload 6, 2) := by decide +kernel
theorem dX4_layRow_76 : decode cX4_layRow 76 = .ok (.bipush 97, 2) := by decide +kernel
theorem dX4_layRow_78 : decode cX4_layRow 78 = .ok (.isub, 1) := by decide +kernel
theorem dX4_layRow_79 : decode cX4_layRow 79 = .ok (.istore 7, 2) := by decide +kernel
theorem dX4_layRow_81 : decode cX4_layRow 81 = .ok (.iload 7, 2) := by decide +kernel
theorem dX4_layRow_83 : decode cX4_layRow 83 = .ok (.ifCond .lt 50, 3) := by decide +kernel
theorem dX4_layRow_86 : decode cX4_layRow 86 = .ok (.iload 7, 2) := by decide +kernel
theorem dX4_layRow_88 : decode cX4_layRow 88 = .ok (.bipush 6, 2) := by decide +kernel
theorem dX4_layRow_90 : decode cX4_layRow 90 = .ok (.if_icmp .ge 43, 3) := by decide +kernel
theorem dX4_layRow_93 : decode cX4_layRow 93 = .ok (.aload_n 0, 1) := by decide +kernel
theorem dX4_layRow_94 : decode cX4_layRow 94 = .ok (.getfield 21, 3) := by decide +kernel
theorem dX4_layRow_97 : decode cX4_layRow 97 = .ok (.getfield 61, 3) := by decide +kernel
theorem dX4_layRow_100 : decode cX4_layRow 100 = .ok (.aload_n 0, 1) := by decide +kernel
theorem dX4_layRow_101 : decode cX4_layRow 101 = .ok (.getfield 21, 3) := by decide +kernel
theorem dX4_layRow_104 : decode cX4_layRow 104 = .ok (.getfield 136, 3) := by decide +kernel
theorem dX4_layRow_107 : decode cX4_layRow 107 = .ok (.bipush 8, 2) := by decide +kernel
theorem dX4_layRow_109 : decode cX4_layRow 109 = .ok (.imul, 1) := by decide +kernel
theorem dX4_layRow_110 : decode cX4_layRow 110 = .ok (.iload 5, 2) := by decide +kernel
theorem dX4_layRow_112 : decode cX4_layRow 112 = .ok (.iadd, 1) := by decide +kernel
theorem dX4_layRow_113 : decode cX4_layRow 113 = .ok (.iload 7, 2) := by decide +kernel
theorem dX4_layRow_115 : decode cX4_layRow 115 = .ok (.iastore, 1) := by decide +kernel
theorem dX4_layRow_116 : decode cX4_layRow 116 = .ok (.aload_n 0, 1) := by decide +kernel
theorem dX4_layRow_117 : decode cX4_layRow 117 = .ok (.getfield 21, 3) := by decide +kernel
theorem dX4_layRow_120 : decode cX4_layRow 120 = .ok (.getfield 154, 3) := by decide +kernel
theorem dX4_layRow_123 : decode cX4_layRow 123 = .ok (.iload 7, 2) := by decide +kernel
theorem dX4_layRow_125 : decode cX4_layRow 125 = .ok (.dup2, 1) := by decide +kernel
theorem dX4_layRow_126 : decode cX4_layRow 126 = .ok (.iaload, 1) := by decide +kernel
theorem dX4_layRow_127 : decode cX4_layRow 127 = .ok (.iconst 1, 1) := by decide +kernel
theorem dX4_layRow_128 : decode cX4_layRow 128 = .ok (.iadd, 1) := by decide +kernel
theorem dX4_layRow_129 : decode cX4_layRow 129 = .ok (.iastore, 1) := by decide +kernel
theorem dX4_layRow_130 : decode cX4_layRow 130 = .ok (.goto 17, 3) := by decide +kernel
theorem dX4_layRow_133 : decode cX4_layRow 133 = .ok (.iload 6, 2) := by decide +kernel
theorem dX4_layRow_135 : decode cX4_layRow 135 = .ok (.bipush 111, 2) := by decide +kernel
theorem dX4_layRow_137 : decode cX4_layRow 137 = .ok (.if_icmp .eq 10, 3) := by decide +kernel
theorem dX4_layRow_140 : decode cX4_layRow 140 = .ok (.aload_n 0, 1) := by decide +kernel
theorem dX4_layRow_141 : decode cX4_layRow 141 = .ok (.bipush 6, 2) := by decide +kernel
theorem dX4_layRow_143 : decode cX4_layRow 143 = .ok (.iload_n 3, 1) := by decide +kernel
theorem dX4_layRow_144 : decode cX4_layRow 144 = .ok (.invokevirtual 68, 3) := by decide +kernel
theorem dX4_layRow_147 : decode cX4_layRow 147 = .ok (.iinc 5 1, 3) := by decide +kernel
theorem dX4_layRow_150 : decode cX4_layRow 150 = .ok (.goto (-103), 3) := by decide +kernel
theorem dX4_layRow_153 : decode cX4_layRow 153 = .ok (.aload_n 0, 1) := by decide +kernel
theorem dX4_layRow_154 : decode cX4_layRow 154 = .ok (.getfield 21, 3) := by decide +kernel
theorem dX4_layRow_157 : decode cX4_layRow 157 = .ok (.dup, 1) := by decide +kernel
theorem dX4_layRow_158 : decode cX4_layRow 158 = .ok (.getfield 136, 3) := by decide +kernel
theorem dX4_layRow_161 : decode cX4_layRow 161 = .ok (.iconst 1, 1) := by decide +kernel
theorem dX4_layRow_162 : decode cX4_layRow 162 = .ok (.iadd, 1) := by decide +kernel
theorem dX4_layRow_163 : decode cX4_layRow 163 = .ok (.putfield 136, 3) := by decide +kernel
theorem dX4_layRow_166 : decode cX4_layRow 166 = .ok (.return_, 1) := by decide +kernel
theorem dX4_readField_0 : decode cX4_readField 0 = .ok (.aload_n 0, 1) := by decide +kernel
theorem dX4_readField_1 : decode cX4_readField 1 = .ok (.getfield 21, 3) := by decide +kernel
theorem dX4_readField_4 : decode cX4_readField 4 = .ok (.getfield 65, 3) := by decide +kernel
theorem dX4_readField_7 : decode cX4_readField 7 = .ok (.bipush 6, 2) := by decide +kernel
theorem dX4_readField_9 : decode cX4_readField 9 = .ok (.if_icmp .lt 9, 3) := by decide +kernel
theorem dX4_readField_12 : decode cX4_readField 12 = .ok (.aload_n 0, 1) := by decide +kernel
theorem dX4_readField_13 : decode cX4_readField 13 = .ok (.iconst 2, 1) := by decide +kernel
theorem dX4_readField_14 : decode cX4_readField 14 = .ok (.invokevirtual 84, 3) := by decide +kernel
theorem dX4_readField_17 : decode cX4_readField 17 = .ok (.return_, 1) := by decide +kernel
theorem dX4_readField_18 : decode cX4_readField 18 = .ok (.aload_n 0, 1) := by decide +kernel
theorem dX4_readField_19 : decode cX4_readField 19 = .ok (.iconst 1, 1) := by decide +kernel
theorem dX4_readField_20 : decode cX4_readField 20 = .ok (.invokevirtual 111, 3) := by decide +kernel
theorem dX4_readField_23 : decode cX4_readField 23 = .ok (.pop, 1) := by decide +kernel
theorem dX4_readField_24 : decode cX4_readField 24 = .ok (.aload_n 0, 1) := by decide +kernel
theorem dX4_readField_25 : decode cX4_readField 25 = .ok (.invokevirtual 157, 3) := by decide +kernel
theorem dX4_readField_28 : decode cX4_readField 28 = .ok (.aload_n 0, 1) := by decide +kernel
theorem dX4_readField_29 : decode cX4_readField 29 = .ok (.getfield 21, 3) := by decide +kernel
theorem dX4_readField_32 : decode cX4_readField 32 = .ok (.getfield 160, 3) := by decide +kernel
theorem dX4_readField_35 : decode cX4_readField 35 = .ok (.aload_n 0, 1) := by decide +kernel
theorem dX4_readField_36 : decode cX4_readField 36 = .ok (.getfield 21, 3) := by decide +kernel
theorem dX4_readField_39 : decode cX4_readField 39 = .ok (.getfield 65, 3) := by decide +kernel
theorem dX4_readField_42 : decode cX4_readField 42 = .ok (.aload_n 0, 1) := by decide +kernel
theorem dX4_readField_43 : decode cX4_readField 43 = .ok (.iconst 0, 1) := by decide +kernel
theorem dX4_readField_44 : decode cX4_readField 44 = .ok (.bipush 99, 2) := by decide +kernel
theorem dX4_readField_46 : decode cX4_readField 46 = .ok (.invokevirtual 115, 3) := by decide +kernel
theorem dX4_readField_49 : decode cX4_readField 49 = .ok (.iastore, 1) := by decide +kernel
theorem dX4_readField_50 : decode cX4_readField 50 = .ok (.aload_n 0, 1) := by decide +kernel
theorem dX4_readField_51 : decode cX4_readField 51 = .ok (.getfield 21, 3) := by decide +kernel
theorem dX4_readField_54 : decode cX4_readField 54 = .ok (.getfield 163, 3) := by decide +kernel
theorem dX4_readField_57 : decode cX4_readField 57 = .ok (.aload_n 0, 1) := by decide +kernel
theorem dX4_readField_58 : decode cX4_readField 58 = .ok (.getfield 21, 3) := by decide +kernel
theorem dX4_readField_61 : decode cX4_readField 61 = .ok (.getfield 65, 3) := by decide +kernel
theorem dX4_readField_64 : decode cX4_readField 64 = .ok (.aload_n 0, 1) := by decide +kernel
theorem dX4_readField_65 : decode cX4_readField 65 = .ok (.iconst 0, 1) := by decide +kernel
theorem dX4_readField_66 : decode cX4_readField 66 = .ok (.sipush 999, 3) := by decide +kernel
theorem dX4_readField_69 : decode cX4_readField 69 = .ok (.invokevirtual 115, 3) := by decide +kernel
theorem dX4_readField_72 : decode cX4_readField 72 = .ok (.iastore, 1) := by decide +kernel
theorem dX4_readField_73 : decode cX4_readField 73 = .ok (.aload_n 0, 1) := by decide +kernel
theorem dX4_readField_74 : decode cX4_readField 74 = .ok (.getfield 21, 3) := by decide +kernel
theorem dX4_readField_77 : decode cX4_readField 77 = .ok (.dup, 1) := by decide +kernel
theorem dX4_readField_78 : decode cX4_readField 78 = .ok (.getfield 65, 3) := by decide +kernel
theorem dX4_readField_81 : decode cX4_readField 81 = .ok (.iconst 1, 1) := by decide +kernel
theorem dX4_readField_82 : decode cX4_readField 82 = .ok (.iadd, 1) := by decide +kernel
theorem dX4_readField_83 : decode cX4_readField 83 = .ok (.putfield 65, 3) := by decide +kernel
theorem dX4_readField_86 : decode cX4_readField 86 = .ok (.return_, 1) := by decide +kernel
theorem dX4_readLoom_0 : decode cX4_readLoom 0 = .ok (.aload_n 0, 1) := by decide +kernel
theorem dX4_readLoom_1 : decode cX4_readLoom 1 = .ok (.getfield 21, 3) := by decide +kernel
theorem dX4_readLoom_4 : decode cX4_readLoom 4 = .ok (.getfield 166, 3) := by decide +kernel
theorem dX4_readLoom_7 : decode cX4_readLoom 7 = .ok (.iconst 4, 1) := by decide +kernel
theorem dX4_readLoom_8 : decode cX4_readLoom 8 = .ok (.if_icmp .lt 9, 3) := by decide +kernel
theorem dX4_readLoom_11 : decode cX4_readLoom 11 = .ok (.aload_n 0, 1) := by decide +kernel
theorem dX4_readLoom_12 : decode cX4_readLoom 12 = .ok (.iconst 2, 1) := by decide +kernel
theorem dX4_readLoom_13 : decode cX4_readLoom 13 = .ok (.invokevirtual 84, 3) := by decide +kernel
theorem dX4_readLoom_16 : decode cX4_readLoom 16 = .ok (.return_, 1) := by decide +kernel
theorem dX4_readLoom_17 : decode cX4_readLoom 17 = .ok (.aload_n 0, 1) := by decide +kernel
theorem dX4_readLoom_18 : decode cX4_readLoom 18 = .ok (.iconst 2, 1) := by decide +kernel
theorem dX4_readLoom_19 : decode cX4_readLoom 19 = .ok (.invokevirtual 111, 3) := by decide +kernel
theorem dX4_readLoom_22 : decode cX4_readLoom 22 = .ok (.pop, 1) := by decide +kernel
theorem dX4_readLoom_23 : decode cX4_readLoom 23 = .ok (.aload_n 0, 1) := by decide +kernel
theorem dX4_readLoom_24 : decode cX4_readLoom 24 = .ok (.invokevirtual 157, 3) := by decide +kernel
theorem dX4_readLoom_27 : decode cX4_readLoom 27 = .ok (.aload_n 0, 1) := by decide +kernel
theorem dX4_readLoom_28 : decode cX4_readLoom 28 = .ok (.getfield 21, 3) := by decide +kernel
theorem dX4_readLoom_31 : decode cX4_readLoom 31 = .ok (.getfield 169, 3) := by decide +kernel
theorem dX4_readLoom_34 : decode cX4_readLoom 34 = .ok (.aload_n 0, 1) := by decide +kernel
theorem dX4_readLoom_35 : decode cX4_readLoom 35 = .ok (.getfield 21, 3) := by decide +kernel
theorem dX4_readLoom_38 : decode cX4_readLoom 38 = .ok (.getfield 166, 3) := by decide +kernel
theorem dX4_readLoom_41 : decode cX4_readLoom 41 = .ok (.aload_n 0, 1) := by decide +kernel
theorem dX4_readLoom_42 : decode cX4_readLoom 42 = .ok (.iconst 1, 1) := by decide +kernel
theorem dX4_readLoom_43 : decode cX4_readLoom 43 = .ok (.bipush 8, 2) := by decide +kernel
theorem dX4_readLoom_45 : decode cX4_readLoom 45 = .ok (.invokevirtual 115, 3) := by decide +kernel
theorem dX4_readLoom_48 : decode cX4_readLoom 48 = .ok (.iastore, 1) := by decide +kernel
theorem dX4_readLoom_49 : decode cX4_readLoom 49 = .ok (.aload_n 0, 1) := by decide +kernel
theorem dX4_readLoom_50 : decode cX4_readLoom 50 = .ok (.getfield 21, 3) := by decide +kernel
theorem dX4_readLoom_53 : decode cX4_readLoom 53 = .ok (.getfield 172, 3) := by decide +kernel
theorem dX4_readLoom_56 : decode cX4_readLoom 56 = .ok (.aload_n 0, 1) := by decide +kernel
theorem dX4_readLoom_57 : decode cX4_readLoom 57 = .ok (.getfield 21, 3) := by decide +kernel
theorem dX4_readLoom_60 : decode cX4_readLoom 60 = .ok (.getfield 166, 3) := by decide +kernel
theorem dX4_readLoom_63 : decode cX4_readLoom 63 = .ok (.aload_n 0, 1) := by decide +kernel
theorem dX4_readLoom_64 : decode cX4_readLoom 64 = .ok (.iconst 0, 1) := by decide +kernel
theorem dX4_readLoom_65 : decode cX4_readLoom 65 = .ok (.bipush 99, 2) := by decide +kernel
theorem dX4_readLoom_67 : decode cX4_readLoom 67 = .ok (.invokevirtual 115, 3) := by decide +kernel
theorem dX4_readLoom_70 : decode cX4_readLoom 70 = .ok (.iastore, 1) := by decide +kernel
theorem dX4_readLoom_71 : decode cX4_readLoom 71 = .ok (.aload_n 0, 1) := by decide +kernel
theorem dX4_readLoom_72 : decode cX4_readLoom 72 = .ok (.getfield 21, 3) := by decide +kernel
theorem dX4_readLoom_75 : decode cX4_readLoom 75 = .ok (.dup, 1) := by decide +kernel
theorem dX4_readLoom_76 : decode cX4_readLoom 76 = .ok (.getfield 166, 3) := by decide +kernel
theorem dX4_readLoom_79 : decode cX4_readLoom 79 = .ok (.iconst 1, 1) := by decide +kernel
theorem dX4_readLoom_80 : decode cX4_readLoom 80 = .ok (.iadd, 1) := by decide +kernel
theorem dX4_readLoom_81 : decode cX4_readLoom 81 = .ok (.putfield 166, 3) := by decide +kernel
theorem dX4_readLoom_84 : decode cX4_readLoom 84 = .ok (.return_, 1) := by decide +kernel
theorem dX4_readLaw_0 : decode cX4_readLaw 0 = .ok (.aload_n 1, 1) := by decide +kernel
theorem dX4_readLaw_1 : decode cX4_readLaw 1 = .ok (.invokevirtual 175, 3) := by decide +kernel
theorem dX4_readLaw_4 : decode cX4_readLaw 4 = .ok (.aload_n 0, 1) := by decide +kernel
theorem dX4_readLaw_5 : decode cX4_readLaw 5 = .ok (.aload_n 0, 1) := by decide +kernel
theorem dX4_readLaw_6 : decode cX4_readLaw 6 = .ok (.getfield 29, 3) := by decide +kernel
theorem dX4_readLaw_9 : decode cX4_readLaw 9 = .ok (.invokevirtual 111, 3) := by decide +kernel
theorem dX4_readLaw_12 : decode cX4_readLaw 12 = .ok (.pop, 1) := by decide +kernel
theorem dX4_readLaw_13 : decode cX4_readLaw 13 = .ok (.aload_n 0, 1) := by decide +kernel
theorem dX4_readLaw_14 : decode cX4_readLaw 14 = .ok (.bipush 24, 2) := by decide +kernel
theorem dX4_readLaw_16 : decode cX4_readLaw 16 = .ok (.invokevirtual 111, 3) := by decide +kernel
theorem dX4_readLaw_19 : decode cX4_readLaw 19 = .ok (.pop, 1) := by decide +kernel
theorem dX4_readLaw_20 : decode cX4_readLaw 20 = .ok (.iconst 0, 1) := by decide +kernel
theorem dX4_readLaw_21 : decode cX4_readLaw 21 = .ok (.istore_n 2, 1) := by decide +kernel
theorem dX4_readLaw_22 : decode cX4_readLaw 22 = .ok (.iload_n 2, 1) := by decide +kernel
theorem dX4_readLaw_23 : decode cX4_readLaw 23 = .ok (.iconst 4, 1) := by decide +kernel
theorem dX4_readLaw_24 : decode cX4_readLaw 24 = .ok (.if_icmp .gt 97, 3) := by decide +kernel
theorem dX4_readLaw_27 : decode cX4_readLaw 27 = .ok (.aload_n 0, 1) := by decide +kernel
theorem dX4_readLaw_28 : decode cX4_readLaw 28 = .ok (.getfield 39, 3) := by decide +kernel
theorem dX4_readLaw_31 : decode cX4_readLaw 31 = .ok (.ifCond .ne 90, 3) := by decide +kernel
theorem dX4_readLaw_34 : decode cX4_readLaw 34 = .ok (.aload_n 0, 1) := by decide +kernel
theorem dX4_readLaw_35 : decode cX4_readLaw 35 = .ok (.getfield 29, 3) := by decide +kernel
theorem dX4_readLaw_38 : decode cX4_readLaw 38 = .ok (.bipush 9, 2) := by decide +kernel
theorem dX4_readLaw_40 : decode cX4_readLaw 40 = .ok (.if_icmp .ne 81, 3) := by decide +kernel
theorem dX4_readLaw_43 : decode cX4_readLaw 43 = .ok (.iload_n 2, 1) := by decide +kernel
theorem dX4_readLaw_44 : decode cX4_readLaw 44 = .ok (.iconst 4, 1) := by decide +kernel
theorem dX4_readLaw_45 : decode cX4_readLaw 45 = .ok (.if_icmp .ne 8, 3) := by decide +kernel
theorem dX4_readLaw_48 : decode cX4_readLaw 48 = .ok (.aload_n 0, 1) := by decide +kernel
theorem dX4_readLaw_49 : decode cX4_readLaw 49 = .ok (.iconst 2, 1) := by decide +kernel
theorem dX4_readLaw_50 : decode cX4_readLaw 50 = .ok (.invokevirtual 84, 3) := by decide +kernel
theorem dX4_readLaw_53 : decode cX4_readLaw 53 = .ok (.aload_n 0, 1) := by decide +kernel
theorem dX4_readLaw_54 : decode cX4_readLaw 54 = .ok (.bipush 9, 2) := by decide +kernel
theorem dX4_readLaw_56 : decode cX4_readLaw 56 = .ok (.invokevirtual 111, 3) := by decide +kernel
theorem dX4_readLaw_59 : decode cX4_readLaw 59 = .ok (.pop, 1) := by decide +kernel
theorem dX4_readLaw_60 : decode cX4_readLaw 60 = .ok (.aload_n 0, 1) := by decide +kernel
theorem dX4_readLaw_61 : decode cX4_readLaw 61 = .ok (.aload_n 1, 1) := by decide +kernel
theorem dX4_readLaw_62 : decode cX4_readLaw 62 = .ok (.iconst 0, 1) := by decide +kernel
theorem dX4_readLaw_63 : decode cX4_readLaw 63 = .ok (.invokevirtual 178, 3) := by decide +kernel
theorem dX4_readLaw_66 : decode cX4_readLaw 66 = .ok (.aload_n 0, 1) := by decide +kernel
theorem dX4_readLaw_67 : decode cX4_readLaw 67 = .ok (.bipush 29, 2) := by decide +kernel
theorem dX4_readLaw_69 : decode cX4_readLaw 69 = .ok (.invokevirtual 111, 3) := by decide +kernel
theorem dX4_readLaw_72 : decode cX4_readLaw 72 = .ok (.pop, 1) := by decide +kernel
theorem dX4_readLaw_73 : decode cX4_readLaw 73 = .ok (.aload_n 0, 1) := by decide +kernel
theorem dX4_readLaw_74 : decode cX4_readLaw 74 = .ok (.aload_n 1, 1) := by decide +kernel
theorem dX4_readLaw_75 : decode cX4_readLaw 75 = .ok (.iconst 0, 1) := by decide +kernel
theorem dX4_readLaw_76 : decode cX4_readLaw 76 = .ok (.invokevirtual 178, 3) := by decide +kernel
theorem dX4_readLaw_79 : decode cX4_readLaw 79 = .ok (.aload_n 0, 1) := by decide +kernel
theorem dX4_readLaw_80 : decode cX4_readLaw 80 = .ok (.bipush 10, 2) := by decide +kernel
theorem dX4_readLaw_82 : decode cX4_readLaw 82 = .ok (.invokevirtual 111, 3) := by decide +kernel
theorem dX4_readLaw_85 : decode cX4_readLaw 85 = .ok (.pop, 1) := by decide +kernel
theorem dX4_readLaw_86 : decode cX4_readLaw 86 = .ok (.aload_n 1, 1) := by decide +kernel
theorem dX4_readLaw_87 : decode cX4_readLaw 87 = .ok (.invokevirtual 182, 3) := by decide +kernel
theorem dX4_readLaw_90 : decode cX4_readLaw 90 = .ok (.istore_n 3, 1) := by decide +kernel
theorem dX4_readLaw_91 : decode cX4_readLaw 91 = .ok (.aload_n 0, 1) := by decide +kernel
theorem dX4_readLaw_92 : decode cX4_readLaw 92 = .ok (.aload_n 1, 1) := by decide +kernel
theorem dX4_readLaw_93 : decode cX4_readLaw 93 = .ok (.iconst 0, 1) := by decide +kernel
theorem dX4_readLaw_94 : decode cX4_readLaw 94 = .ok (.invokevirtual 178, 3) := by decide +kernel
theorem dX4_readLaw_97 : decode cX4_readLaw 97 = .ok (.aload_n 0, 1) := by decide +kernel
theorem dX4_readLaw_98 : decode cX4_readLaw 98 = .ok (.bipush 11, 2) := by decide +kernel
theorem dX4_readLaw_100 : decode cX4_readLaw 100 = .ok (.invokevirtual 111, 3) := by decide +kernel
theorem dX4_readLaw_103 : decode cX4_readLaw 103 = .ok (.pop, 1) := by decide +kernel
theorem dX4_readLaw_104 : decode cX4_readLaw 104 = .ok (.aload_n 1, 1) := by decide +kernel
theorem dX4_readLaw_105 : decode cX4_readLaw 105 = .ok (.bipush (-15), 2) := by decide +kernel
theorem dX4_readLaw_107 : decode cX4_readLaw 107 = .ok (.invokevirtual 185, 3) := by decide +kernel
theorem dX4_readLaw_110 : decode cX4_readLaw 110 = .ok (.aload_n 1, 1) := by decide +kernel
theorem dX4_readLaw_111 : decode cX4_readLaw 111 = .ok (.iload_n 3, 1) := by decide +kernel
theorem dX4_readLaw_112 : decode cX4_readLaw 112 = .ok (.invokevirtual 188, 3) := by decide +kernel
theorem dX4_readLaw_115 : decode cX4_readLaw 115 = .ok (.iinc 2 1, 3) := by decide +kernel
theorem dX4_readLaw_118 : decode cX4_readLaw 118 = .ok (.goto (-96), 3) := by decide +kernel
theorem dX4_readLaw_121 : decode cX4_readLaw 121 = .ok (.aload_n 0, 1) := by decide +kernel
theorem dX4_readLaw_122 : decode cX4_readLaw 122 = .ok (.aload_n 1, 1) := by decide +kernel
theorem dX4_readLaw_123 : decode cX4_readLaw 123 = .ok (.iconst 0, 1) := by decide +kernel
theorem dX4_readLaw_124 : decode cX4_readLaw 124 = .ok (.invokevirtual 178, 3) := by decide +kernel
theorem dX4_readLaw_127 : decode cX4_readLaw 127 = .ok (.aload_n 1, 1) := by decide +kernel
theorem dX4_readLaw_128 : decode cX4_readLaw 128 = .ok (.bipush (-15), 2) := by decide +kernel
theorem dX4_readLaw_130 : decode cX4_readLaw 130 = .ok (.invokevirtual 185, 3) := by decide +kernel
theorem dX4_readLaw_133 : decode cX4_readLaw 133 = .ok (.return_, 1) := by decide +kernel
theorem dX4_readSum_0 : decode cX4_readSum 0 = .ok (.iconst 0, 1) := by decide +kernel
theorem dX4_readSum_1 : decode cX4_readSum 1 = .ok (.istore_n 3, 1) := by decide +kernel
theorem dX4_readSum_2 : decode cX4_readSum 2 = .ok (.iconst 0, 1) := by decide +kernel
theorem dX4_readSum_3 : decode cX4_readSum 3 = .ok (.istore 4, 2) := by decide +kernel
theorem dX4_readSum_5 : decode cX4_readSum 5 = .ok (.iconst 1, 1) := by decide +kernel
theorem dX4_readSum_6 : decode cX4_readSum 6 = .ok (.istore 5, 2) := by decide +kernel
theorem dX4_readSum_8 : decode cX4_readSum 8 = .ok (.iconst 0, 1) := by decide +kernel
theorem dX4_readSum_9 : decode cX4_readSum 9 = .ok (.istore 6, 2) := by decide +kernel
theorem dX4_readSum_11 : decode cX4_readSum 11 = .ok (.iload 6, 2) := by decide +kernel
theorem dX4_readSum_13 : decode cX4_readSum 13 = .ok (.sipush 400, 3) := by decide +kernel
theorem dX4_readSum_16 : decode cX4_readSum 16 = .ok (.if_icmp .gt 86, 3) := by decide +kernel
theorem dX4_readSum_19 : decode cX4_readSum 19 = .ok (.iload 5, 2) := by decide +kernel
theorem dX4_readSum_21 : decode cX4_readSum 21 = .ok (.ifCond .eq 81, 3) := by decide +kernel
theorem dX4_readSum_24 : decode cX4_readSum 24 = .ok (.aload_n 0, 1) := by decide +kernel
theorem dX4_readSum_25 : decode cX4_readSum 25 = .ok (.aload_n 1, 1) := by decide +kernel
theorem dX4_readSum_26 : decode cX4_readSum 26 = .ok (.iload_n 2, 1) := by decide +kernel
theorem dX4_readSum_27 : decode cX4_readSum 27 = .ok (.invokevirtual 191, 3) := by decide +kernel
theorem dX4_readSum_30 : decode cX4_readSum 30 = .ok (.iload_n 3, 1) := by decide +kernel
theorem dX4_readSum_31 : decode cX4_readSum 31 = .ok (.ifCond .eq 8, 3) := by decide +kernel
theorem dX4_readSum_34 : decode cX4_readSum 34 = .ok (.aload_n 1, 1) := by decide +kernel
theorem dX4_readSum_35 : decode cX4_readSum 35 = .ok (.iload_n 3, 1) := by decide +kernel
theorem dX4_readSum_36 : decode cX4_readSum 36 = .ok (.invokevirtual 185, 3) := by decide +kernel
theorem dX4_readSum_39 : decode cX4_readSum 39 = .ok (.aload_n 0, 1) := by decide +kernel
theorem dX4_readSum_40 : decode cX4_readSum 40 = .ok (.invokevirtual 194, 3) := by decide +kernel
theorem dX4_readSum_43 : decode cX4_readSum 43 = .ok (.istore_n 3, 1) := by decide +kernel
theorem dX4_readSum_44 : decode cX4_readSum 44 = .ok (.iload_n 3, 1) := by decide +kernel
theorem dX4_readSum_45 : decode cX4_readSum 45 = .ok (.ifCond .ne 14, 3) := by decide +kernel
theorem dX4_readSum_48 : decode cX4_readSum 48 = .ok (.iload 4, 2) := by decide +kernel
theorem dX4_readSum_50 : decode cX4_readSum 50 = .ok (.ifCond .eq 9, 3) := by decide +kernel
theorem dX4_readSum_53 : decode cX4_readSum 53 = .ok (.aload_n 1, 1) := by decide +kernel
theorem dX4_readSum_54 : decode cX4_readSum 54 = .ok (.iload 4, 2) := by decide +kernel
theorem dX4_readSum_56 : decode cX4_readSum 56 = .ok (.invokevirtual 185, 3) := by decide +kernel
theorem dX4_readSum_59 : decode cX4_readSum 59 = .ok (.iload_n 3, 1) := by decide +kernel
theorem dX4_readSum_60 : decode cX4_readSum 60 = .ok (.ifCond .ne 9, 3) := by decide +kernel
theorem dX4_readSum_63 : decode cX4_readSum 63 = .ok (.aload_n 0, 1) := by decide +kernel
theorem dX4_readSum_64 : decode cX4_readSum 64 = .ok (.invokevirtual 197, 3) := by decide +kernel
theorem dX4_readSum_67 : decode cX4_readSum 67 = .ok (.istore 4, 2) := by decide +kernel
theorem dX4_readSum_69 : decode cX4_readSum 69 = .ok (.iload_n 3, 1) := by decide +kernel
theorem dX4_readSum_70 : decode cX4_readSum 70 = .ok (.ifCond .ne 8, 3) := by decide +kernel
theorem dX4_readSum_73 : decode cX4_readSum 73 = .ok (.iload 4, 2) := by decide +kernel
theorem dX4_readSum_75 : decode cX4_readSum 75 = .ok (.ifCond .eq 18, 3) := by decide +kernel
theorem dX4_readSum_78 : decode cX4_readSum 78 = .ok (.aload_n 0, 1) := by decide +kernel
theorem dX4_readSum_79 : decode cX4_readSum 79 = .ok (.aload_n 0, 1) := by decide +kernel
theorem dX4_readSum_80 : decode cX4_readSum 80 = .ok (.getfield 29, 3) := by decide +kernel
theorem dX4_readSum_83 : decode cX4_readSum 83 = .ok (.invokevirtual 111, 3) := by decide +kernel
theorem dX4_readSum_86 : decode cX4_readSum 86 = .ok (.ifCond .eq 7, 3) := by decide +kernel
theorem dX4_readSum_89 : decode cX4_readSum 89 = .ok (.iconst 1, 1) := by decide +kernel
theorem dX4_readSum_90 : decode cX4_readSum 90 = .ok (.goto 4, 3) := by decide +kernel
theorem dX4_readSum_93 : decode cX4_readSum 93 = .ok (.iconst 0, 1) := by decide +kernel
theorem dX4_readSum_94 : decode cX4_readSum 94 = .ok (.istore 5, 2) := by decide +kernel
theorem dX4_readSum_96 : decode cX4_readSum 96 = .ok (.iinc 6 1, 3) := by decide +kernel
theorem dX4_readSum_99 : decode cX4_readSum 99 = .ok (.goto (-88), 3) := by decide +kernel
theorem dX4_readSum_102 : decode cX4_readSum 102 = .ok (.return_, 1) := by decide +kernel
theorem dX4_productCode_0 : decode cX4_productCode 0 = .ok (.aload_n 0, 1) := by decide +kernel
theorem dX4_productCode_1 : decode cX4_productCode 1 = .ok (.getfield 29, 3) := by decide +kernel
theorem dX4_productCode_4 : decode cX4_productCode 4 = .ok (.bipush 27, 2) := by decide +kernel
theorem dX4_productCode_6 : decode cX4_productCode 6 = .ok (.if_icmp .ne 8, 3) := by decide +kernel
theorem dX4_productCode_9 : decode cX4_productCode 9 = .ok (.bipush (-12), 2) := by decide +kernel
theorem dX4_productCode_11 : decode cX4_productCode 11 = .ok (.goto 18, 3) := by decide +kernel
theorem dX4_productCode_14 : decode cX4_productCode 14 = .ok (.aload_n 0, 1) := by decide +kernel
theorem dX4_productCode_15 : decode cX4_productCode 15 = .ok (.getfield 29, 3) := by decide +kernel
theorem dX4_productCode_18 : decode cX4_productCode 18 = .ok (.bipush 28, 2) := by decide +kernel
theorem dX4_productCode_20 : decode cX4_productCode 20 = .ok (.if_icmp .ne 8, 3) := by decide +kernel
theorem dX4_productCode_23 : decode cX4_productCode 23 = .ok (.bipush (-13), 2) := by decide +kernel
theorem dX4_productCode_25 : decode cX4_productCode 25 = .ok (.goto 4, 3) := by decide +kernel
theorem dX4_productCode_28 : decode cX4_productCode 28 = .ok (.iconst 0, 1) := by decide +kernel
theorem dX4_productCode_29 : decode cX4_productCode 29 = .ok (.ireturn, 1) := by decide +kernel
theorem dX4_sumCode_0 : decode cX4_sumCode 0 = .ok (.aload_n 0, 1) := by decide +kernel
theorem dX4_sumCode_1 : decode cX4_sumCode 1 = .ok (.getfield 29, 3) := by decide +kernel
theorem dX4_sumCode_4 : decode cX4_sumCode 4 = .ok (.bipush 25, 2) := by decide +kernel
theorem dX4_sumCode_6 : decode cX4_sumCode 6 = .ok (.if_icmp .ne 8, 3) := by decide +kernel
theorem dX4_sumCode_9 : decode cX4_sumCode 9 = .ok (.bipush (-10), 2) := by decide +kernel
theorem dX4_sumCode_11 : decode cX4_sumCode 11 = .ok (.goto 18, 3) := by decide +kernel
theorem dX4_sumCode_14 : decode cX4_sumCode 14 = .ok (.aload_n 0, 1) := by decide +kernel
theorem dX4_sumCode_15 : decode cX4_sumCode 15 = .ok (.getfield 29, 3) := by decide +kernel
theorem dX4_sumCode_18 : decode cX4_sumCode 18 = .ok (.bipush 26, 2) := by decide +kernel
theorem dX4_sumCode_20 : decode cX4_sumCode 20 = .ok (.if_icmp .ne 8, 3) := by decide +kernel
theorem dX4_sumCode_23 : decode cX4_sumCode 23 = .ok (.bipush (-11), 2) := by decide +kernel
theorem dX4_sumCode_25 : decode cX4_sumCode 25 = .ok (.goto 4, 3) := by decide +kernel
theorem dX4_sumCode_28 : decode cX4_sumCode 28 = .ok (.iconst 0, 1) := by decide +kernel
theorem dX4_sumCode_29 : decode cX4_sumCode 29 = .ok (.ireturn, 1) := by decide +kernel
theorem dX4_readUnit_0 : decode cX4_readUnit 0 = .ok (.aload_n 0, 1) := by decide +kernel
theorem dX4_readUnit_1 : decode cX4_readUnit 1 = .ok (.getfield 29, 3) := by decide +kernel
theorem dX4_readUnit_4 : decode cX4_readUnit 4 = .ok (.bipush 30, 2) := by decide +kernel
theorem dX4_readUnit_6 : decode cX4_readUnit 6 = .ok (.if_icmp .ne 44, 3) := by decide +kernel
theorem dX4_readUnit_9 : decode cX4_readUnit 9 = .ok (.iload_n 2, 1) := by decide +kernel
theorem dX4_readUnit_10 : decode cX4_readUnit 10 = .ok (.bipush 6, 2) := by decide +kernel
theorem dX4_readUnit_12 : decode cX4_readUnit 12 = .ok (.if_icmp .lt 11, 3) := by decide +kernel
theorem dX4_readUnit_15 : decode cX4_readUnit 15 = .ok (.aload_n 0, 1) := by decide +kernel
theorem dX4_readUnit_16 : decode cX4_readUnit 16 = .ok (.iconst 2, 1) := by decide +kernel
theorem dX4_readUnit_17 : decode cX4_readUnit 17 = .ok (.invokevirtual 84, 3) := by decide +kernel
theorem dX4_readUnit_20 : decode cX4_readUnit 20 = .ok (.goto 89, 3) := by decide +kernel
theorem dX4_readUnit_23 : decode cX4_readUnit 23 = .ok (.aload_n 0, 1) := by decide +kernel
theorem dX4_readUnit_24 : decode cX4_readUnit 24 = .ok (.bipush 30, 2) := by decide +kernel
theorem dX4_readUnit_26 : decode cX4_readUnit 26 = .ok (.invokevirtual 111, 3) := by decide +kernel
theorem dX4_readUnit_29 : decode cX4_readUnit 29 = .ok (.ifCond .eq 80, 3) := by decide +kernel
theorem dX4_readUnit_32 : decode cX4_readUnit 32 = .ok (.aload_n 0, 1) := by decide +kernel
theorem dX4_readUnit_33 : decode cX4_readUnit 33 = .ok (.aload_n 1, 1) := by decide +kernel
theorem dX4_readUnit_34 : decode cX4_readUnit 34 = .ok (.iload_n 2, 1) := by decide +kernel
theorem dX4_readUnit_35 : decode cX4_readUnit 35 = .ok (.iconst 1, 1) := by decide +kernel
theorem dX4_readUnit_36 : decode cX4_readUnit 36 = .ok (.iadd, 1) := by decide +kernel
theorem dX4_readUnit_37 : decode cX4_readUnit 37 = .ok (.invokevirtual 178, 3) := by decide +kernel
theorem dX4_readUnit_40 : decode cX4_readUnit 40 = .ok (.aload_n 0, 1) := by decide +kernel
theorem dX4_readUnit_41 : decode cX4_readUnit 41 = .ok (.bipush 31, 2) := by decide +kernel
theorem dX4_readUnit_43 : decode cX4_readUnit 43 = .ok (.invokevirtual 111, 3) := by decide +kernel
theorem dX4_readUnit_46 : decode cX4_readUnit 46 = .ok (.pop, 1) := by decide +kernel
theorem dX4_readUnit_47 : decode cX4_readUnit 47 = .ok (.goto 62, 3) := by decide +kernel
theorem dX4_readUnit_50 : decode cX4_readUnit 50 = .ok (.aload_n 0, 1) := by decide +kernel
theorem dX4_readUnit_51 : decode cX4_readUnit 51 = .ok (.getfield 29, 3) := by decide +kernel
theorem dX4_readUnit_54 : decode cX4_readUnit 54 = .ok (.bipush 12, 2) := by decide +kernel
theorem dX4_readUnit_56 : decode cX4_readUnit 56 = .ok (.if_icmp .lt 37, 3) := by decide +kernel
theorem dX4_readUnit_59 : decode cX4_readUnit 59 = .ok (.aload_n 0, 1) := by decide +kernel
theorem dX4_readUnit_60 : decode cX4_readUnit 60 = .ok (.getfield 29, 3) := by decide +kernel
theorem dX4_readUnit_63 : decode cX4_readUnit 63 = .ok (.bipush 20, 2) := by decide +kernel
theorem dX4_readUnit_65 : decode cX4_readUnit 65 = .ok (.if_icmp .gt 28, 3) := by decide +kernel
theorem dX4_readUnit_68 : decode cX4_readUnit 68 = .ok (.aload_n 1, 1) := by decide +kernel
theorem dX4_readUnit_69 : decode cX4_readUnit 69 = .ok (.iconst (-1), 1) := by decide +kernel
theorem dX4_readUnit_70 : decode cX4_readUnit 70 = .ok (.aload_n 0, 1) := by decide +kernel
theorem dX4_readUnit_71 : decode cX4_readUnit 71 = .ok (.getfield 29, 3) := by decide +kernel
theorem dX4_readUnit_74 : decode cX4_readUnit 74 = .ok (.bipush 12, 2) := by decide +kernel
theorem dX4_readUnit_76 : decode cX4_readUnit 76 = .ok (.isub, 1) := by decide +kernel
theorem dX4_readUnit_77 : decode cX4_readUnit 77 = .ok (.isub, 1) := by decide +kernel
theorem dX4_readUnit_78 : decode cX4_readUnit 78 = .ok (.invokevirtual 185, 3) := by decide +kernel
theorem dX4_readUnit_81 : decode cX4_readUnit 81 = .ok (.aload_n 0, 1) := by decide +kernel
theorem dX4_readUnit_82 : decode cX4_readUnit 82 = .ok (.aload_n 0, 1) := by decide +kernel
theorem dX4_readUnit_83 : decode cX4_readUnit 83 = .ok (.getfield 29, 3) := by decide +kernel
theorem dX4_readUnit_86 : decode cX4_readUnit 86 = .ok (.invokevirtual 111, 3) := by decide +kernel
theorem dX4_readUnit_89 : decode cX4_readUnit 89 = .ok (.pop, 1) := by decide +kernel
theorem dX4_readUnit_90 : decode cX4_readUnit 90 = .ok (.goto 19, 3) := by decide +kernel
theorem dX4_readUnit_93 : decode cX4_readUnit 93 = .ok (.aload_n 1, 1) := by decide +kernel
theorem dX4_readUnit_94 : decode cX4_readUnit 94 = .ok (.aload_n 0, 1) := by decide +kernel
theorem dX4_readUnit_95 : decode cX4_readUnit 95 = .ok (.invokevirtual 128, 3) := by decide +kernel
theorem dX4_readUnit_98 : decode cX4_readUnit 98 = .ok (.l2i, 1) := by decide +kernel
theorem dX4_readUnit_99 : decode cX4_readUnit 99 = .ok (.invokevirtual 185, 3) := by decide +kernel
theorem dX4_readUnit_102 : decode cX4_readUnit 102 = .ok (.aload_n 0, 1) := by decide +kernel
theorem dX4_readUnit_103 : decode cX4_readUnit 103 = .ok (.bipush 22, 2) := by decide +kernel
theorem dX4_readUnit_105 : decode cX4_readUnit 105 = .ok (.invokevirtual 111, 3) := by decide +kernel
theorem dX4_readUnit_108 : decode cX4_readUnit 108 = .ok (.pop, 1) := by decide +kernel
theorem dX4_readUnit_109 : decode cX4_readUnit 109 = .ok (.return_, 1) := by decide +kernel
theorem dX5_begin_0 : decode cX5_begin 0 = .ok (.aload_n 0, 1) := by decide +kernel
theorem dX5_begin_1 : decode cX5_begin 1 = .ok (.iconst 0, 1) := by decide +kernel
theorem dX5_begin_2 : decode cX5_begin 2 = .ok (.putfield 9, 3) := by decide +kernel
theorem dX5_begin_5 : decode cX5_begin 5 = .ok (.aload_n 0, 1) := by decide +kernel
theorem dX5_begin_6 : decode cX5_begin 6 = .ok (.aload_n 1, 1) := by decide +kernel
theorem dX5_begin_7 : decode cX5_begin 7 = .ok (.getfield 31, 3) := by decide +kernel
theorem dX5_begin_10 : decode cX5_begin 10 = .ok (.putfield 15, 3) := by decide +kernel
theorem dX5_begin_13 : decode cX5_begin 13 = .ok (.aload_n 0, 1) := by decide +kernel
theorem dX5_begin_14 : decode cX5_begin 14 = .ok (.getfield 18, 3) := by decide +kernel
theorem dX5_begin_17 : decode cX5_begin 17 = .ok (.iconst 0, 1) := by decide +kernel
theorem dX5_begin_18 : decode cX5_begin 18 = .ok (.invokestatic 34, 3) := by decide +kernel
theorem dX5_begin_21 : decode cX5_begin 21 = .ok (.aload_n 0, 1) := by decide +kernel
theorem dX5_begin_22 : decode cX5_begin 22 = .ok (.getfield 22, 3) := by decide +kernel
theorem dX5_begin_25 : decode cX5_begin 25 = .ok (.iconst 0, 1) := by decide +kernel
theorem dX5_begin_26 : decode cX5_begin 26 = .ok (.invokestatic 34, 3) := by decide +kernel
theorem dX5_begin_29 : decode cX5_begin 29 = .ok (.aload_n 0, 1) := by decide +kernel
theorem dX5_begin_30 : decode cX5_begin 30 = .ok (.getfield 25, 3) := by decide +kernel
theorem dX5_begin_33 : decode cX5_begin 33 = .ok (.iconst 0, 1) := by decide +kernel
theorem dX5_begin_34 : decode cX5_begin 34 = .ok (.invokestatic 34, 3) := by decide +kernel
theorem dX5_begin_37 : decode cX5_begin 37 = .ok (.aload_n 0, 1) := by decide +kernel
theorem dX5_begin_38 : decode cX5_begin 38 = .ok (.getfield 28, 3) := by decide +kernel
theorem dX5_begin_41 : decode cX5_begin 41 = .ok (.iconst 0, 1) := by decide +kernel
theorem dX5_begin_42 : decode cX5_begin 42 = .ok (.invokestatic 34, 3) := by decide +kernel
theorem dX5_begin_45 : decode cX5_begin 45 = .ok (.iconst 0, 1) := by decide +kernel
theorem dX5_begin_46 : decode cX5_begin 46 = .ok (.istore_n 2, 1) := by decide +kernel
theorem dX5_begin_47 : decode cX5_begin 47 = .ok (.iload_n 2, 1) := by decide +kernel
theorem dX5_begin_48 : decode cX5_begin 48 = .ok (.aload_n 1, 1) := by decide +kernel
theorem dX5_begin_49 : decode cX5_begin 49 = .ok (.getfield 40, 3) := by decide +kernel
theorem dX5_begin_52 : decode cX5_begin 52 = .ok (.if_icmp .ge 46, 3) := by decide +kernel
theorem dX5_begin_55 : decode cX5_begin 55 = .ok (.aload_n 0, 1) := by decide +kernel
theorem dX5_begin_56 : decode cX5_begin 56 = .ok (.iload_n 2, 1) := by decide +kernel
theorem dX5_begin_57 : decode cX5_begin 57 = .ok (.iconst 0, 1) := by decide +kernel
theorem dX5_begin_58 : decode cX5_begin 58 = .ok (.aload_n 1, 1) := by decide +kernel
theorem dX5_begin_59 : decode cX5_begin 59 = .ok (.getfield 42, 3) := by decide +kernel
theorem dX5_begin_62 : decode cX5_begin 62 = .ok (.iload_n 2, 1) := by decide +kernel
theorem dX5_begin_63 : decode cX5_begin 63 = .ok (.iaload, 1) := by decide +kernel
theorem dX5_begin_64 : decode cX5_begin 64 = .ok (.invokevirtual 45, 3) := by decide +kernel
theorem dX5_begin_67 : decode cX5_begin 67 = .ok (.aload_n 0, 1) := by decide +kernel
theorem dX5_begin_68 : decode cX5_begin 68 = .ok (.iload_n 2, 1) := by decide +kernel
theorem dX5_begin_69 : decode cX5_begin 69 = .ok (.iconst 1, 1) := by decide +kernel
theorem dX5_begin_70 : decode cX5_begin 70 = .ok (.aload_n 1, 1) := by decide +kernel
theorem dX5_begin_71 : decode cX5_begin 71 = .ok (.getfield 49, 3) := by decide +kernel
theorem dX5_begin_74 : decode cX5_begin 74 = .ok (.iload_n 2, 1) := by decide +kernel
theorem dX5_begin_75 : decode cX5_begin 75 = .ok (.iaload, 1) := by decide +kernel
theorem dX5_begin_76 : decode cX5_begin 76 = .ok (.invokevirtual 45, 3) := by decide +kernel
theorem dX5_begin_79 : decode cX5_begin 79 = .ok (.aload_n 0, 1) := by decide +kernel
theorem dX5_begin_80 : decode cX5_begin 80 = .ok (.iload_n 2, 1) := by decide +kernel
theorem dX5_begin_81 : decode cX5_begin 81 = .ok (.bipush (-2), 2) := by decide +kernel
theorem dX5_begin_83 : decode cX5_begin 83 = .ok (.bipush (-2), 2) := by decide +kernel
theorem dX5_begin_85 : decode cX5_begin 85 = .ok (.bipush (-2), 2) := by decide +kernel
theorem dX5_begin_87 : decode cX5_begin 87 = .ok (.bipush (-2), 2) := by decide +kernel
theorem dX5_begin_89 : decode cX5_begin 89 = .ok (.invokevirtual 52, 3) := by decide +kernel
theorem dX5_begin_92 : decode cX5_begin 92 = .ok (.iinc 2 1, 3) := by decide +kernel
theorem dX5_begin_95 : decode cX5_begin 95 = .ok (.goto (-48), 3) := by decide +kernel
theorem dX5_begin_98 : decode cX5_begin 98 = .ok (.return_, 1) := by decide +kernel
theorem dX5_copy_0 : decode cX5_copy 0 = .ok (.aload_n 0, 1) := by decide +kernel
theorem dX5_copy_1 : decode cX5_copy 1 = .ok (.aload_n 1, 1) := by decide +kernel
theorem dX5_copy_2 : decode cX5_copy 2 = .ok (.getfield 9, 3) := by decide +kernel
theorem dX5_copy_5 : decode cX5_copy 5 = .ok (.putfield 9, 3) := by decide +kernel
theorem dX5_copy_8 : decode cX5_copy 8 = .ok (.aload_n 0, 1) := by decide +kernel
theorem dX5_copy_9 : decode cX5_copy 9 = .ok (.aload_n 1, 1) := by decide +kernel
theorem dX5_copy_10 : decode cX5_copy 10 = .ok (.getfield 15, 3) := by decide +kernel
theorem dX5_copy_13 : decode cX5_copy 13 = .ok (.putfield 15, 3) := by decide +kernel
theorem dX5_copy_16 : decode cX5_copy 16 = .ok (.aload_n 1, 1) := by decide +kernel
theorem dX5_copy_17 : decode cX5_copy 17 = .ok (.getfield 18, 3) := by decide +kernel
theorem dX5_copy_20 : decode cX5_copy 20 = .ok (.iconst 0, 1) := by decide +kernel
theorem dX5_copy_21 : decode cX5_copy 21 = .ok (.aload_n 0, 1) := by decide +kernel
theorem dX5_copy_22 : decode cX5_copy 22 = .ok (.getfield 18, 3) := by decide +kernel
theorem dX5_copy_25 : decode cX5_copy 25 = .ok (.iconst 0, 1) := by decide +kernel
theorem dX5_copy_26 : decode cX5_copy 26 = .ok (.bipush 48, 2) := by decide +kernel
theorem dX5_copy_28 : decode cX5_copy 28 = .ok (.invokestatic 56, 3) := by decide +kernel
theorem dX5_copy_31 : decode cX5_copy 31 = .ok (.aload_n 1, 1) := by decide +kernel
theorem dX5_copy_32 : decode cX5_copy 32 = .ok (.getfield 22, 3) := by decide +kernel
theorem dX5_copy_35 : decode cX5_copy 35 = .ok (.iconst 0, 1) := by decide +kernel
theorem dX5_copy_36 : decode cX5_copy 36 = .ok (.aload_n 0, 1) := by decide +kernel
theorem dX5_copy_37 : decode cX5_copy 37 = .ok (.getfield 22, 3) := by decide +kernel
theorem dX5_copy_40 : decode cX5_copy 40 = .ok (.iconst 0, 1) := by decide +kernel
theorem dX5_copy_41 : decode cX5_copy 41 = .ok (.bipush 32, 2) := by decide +kernel
theorem dX5_copy_43 : decode cX5_copy 43 = .ok (.invokestatic 56, 3) := by decide +kernel
theorem dX5_copy_46 : decode cX5_copy 46 = .ok (.aload_n 1, 1) := by decide +kernel
theorem dX5_copy_47 : decode cX5_copy 47 = .ok (.getfield 25, 3) := by decide +kernel
theorem dX5_copy_50 : decode cX5_copy 50 = .ok (.iconst 0, 1) := by decide +kernel
theorem dX5_copy_51 : decode cX5_copy 51 = .ok (.aload_n 0, 1) := by decide +kernel
theorem dX5_copy_52 : decode cX5_copy 52 = .ok (.getfield 25, 3) := by decide +kernel
theorem dX5_copy_55 : decode cX5_copy 55 = .ok (.iconst 0, 1) := by decide +kernel
theorem dX5_copy_56 : decode cX5_copy 56 = .ok (.bipush 6, 2) := by decide +kernel
theorem dX5_copy_58 : decode cX5_copy 58 = .ok (.invokestatic 56, 3) := by decide +kernel
theorem dX5_copy_61 : decode cX5_copy 61 = .ok (.aload_n 1, 1) := by decide +kernel
theorem dX5_copy_62 : decode cX5_copy 62 = .ok (.getfield 28, 3) := by decide +kernel
theorem dX5_copy_65 : decode cX5_copy 65 = .ok (.iconst 0, 1) := by decide +kernel
theorem dX5_copy_66 : decode cX5_copy 66 = .ok (.aload_n 0, 1) := by decide +kernel
theorem dX5_copy_67 : decode cX5_copy 67 = .ok (.getfield 28, 3) := by decide +kernel
theorem dX5_copy_70 : decode cX5_copy 70 = .ok (.iconst 0, 1) := by decide +kernel
theorem dX5_copy_71 : decode cX5_copy 71 = .ok (.bipush 6, 2) := by decide +kernel
theorem dX5_copy_73 : decode cX5_copy 73 = .ok (.invokestatic 56, 3) := by decide +kernel
theorem dX5_copy_76 : decode cX5_copy 76 = .ok (.aload_n 0, 1) := by decide +kernel
theorem dX5_copy_77 : decode cX5_copy 77 = .ok (.areturn, 1) := by decide +kernel
theorem dX5_sum_0 : decode cX5_sum 0 = .ok (.iconst 0, 1) := by decide +kernel
theorem dX5_sum_1 : decode cX5_sum 1 = .ok (.istore_n 1, 1) := by decide +kernel
theorem dX5_sum_2 : decode cX5_sum 2 = .ok (.iconst 0, 1) := by decide +kernel
theorem dX5_sum_3 : decode cX5_sum 3 = .ok (.istore_n 2, 1) := by decide +kernel
theorem dX5_sum_4 : decode cX5_sum 4 = .ok (.iload_n 2, 1) := by decide +kernel
theorem dX5_sum_5 : decode cX5_sum 5 = .ok (.aload_n 0, 1) := by decide +kernel
theorem dX5_sum_6 : decode cX5_sum 6 = .ok (.arraylength, 1) := by decide +kernel
theorem dX5_sum_7 : decode cX5_sum 7 = .ok (.if_icmp .ge 15, 3) := by decide +kernel
theorem dX5_sum_10 : decode cX5_sum 10 = .ok (.iload_n 1, 1) := by decide +kernel
theorem dX5_sum_11 : decode cX5_sum 11 = .ok (.aload_n 0, 1) := by decide +kernel
theorem dX5_sum_12 : decode cX5_sum 12 = .ok (.iload_n 2, 1) := by decide +kernel
theorem dX5_sum_13 : decode cX5_sum 13 = .ok (.iaload, 1) := by decide +kernel
theorem dX5_sum_14 : decode cX5_sum 14 = .ok (.iadd, 1) := by decide +kernel
theorem dX5_sum_15 : decode cX5_sum 15 = .ok (.istore_n 1, 1) := by decide +kernel
theorem dX5_sum_16 : decode cX5_sum 16 = .ok (.iinc 2 1, 3) := by decide +kernel
theorem dX5_sum_19 : decode cX5_sum 19 = .ok (.goto (-15), 3) := by decide +kernel
theorem dX5_sum_22 : decode cX5_sum 22 = .ok (.iload_n 1, 1) := by decide +kernel
theorem dX5_sum_23 : decode cX5_sum 23 = .ok (.ireturn, 1) := by decide +kernel
theorem dX5_isPart_0 : decode cX5_isPart 0 = .ok (.iload_n 0, 1) := by decide +kernel
theorem dX5_isPart_1 : decode cX5_isPart 1 = .ok (.ifCond .lt 22, 3) := by decide +kernel
theorem dX5_isPart_4 : decode cX5_isPart 4 = .ok (.iload_n 0, 1) := by decide +kernel
theorem dX5_isPart_5 : decode cX5_isPart 5 = .ok (.iconst 4, 1) := by decide +kernel
theorem dX5_isPart_6 : decode cX5_isPart 6 = .ok (.if_icmp .ge 17, 3) := by decide +kernel
theorem dX5_isPart_9 : decode cX5_isPart 9 = .ok (.iload_n 1, 1) := by decide +kernel
theorem dX5_isPart_10 : decode cX5_isPart 10 = .ok (.ifCond .lt 13, 3) := by decide +kernel
theorem dX5_isPart_13 : decode cX5_isPart 13 = .ok (.iload_n 1, 1) := by decide +kernel
theorem dX5_isPart_14 : decode cX5_isPart 14 = .ok (.bipush 8, 2) := by decide +kernel
theorem dX5_isPart_16 : decode cX5_isPart 16 = .ok (.if_icmp .ge 7, 3) := by decide +kernel
theorem dX5_isPart_19 : decode cX5_isPart 19 = .ok (.iconst 1, 1) := by decide +kernel
theorem dX5_isPart_20 : decode cX5_isPart 20 = .ok (.goto 4, 3) := by decide +kernel
theorem dX5_isPart_23 : decode cX5_isPart 23 = .ok (.iconst 0, 1) := by decide +kernel
theorem dX5_isPart_24 : decode cX5_isPart 24 = .ok (.ireturn, 1) := by decide +kernel
theorem dX5_part_0 : decode cX5_part 0 = .ok (.iload_n 1, 1) := by decide +kernel
theorem dX5_part_1 : decode cX5_part 1 = .ok (.iload_n 2, 1) := by decide +kernel
theorem dX5_part_2 : decode cX5_part 2 = .ok (.invokestatic 62, 3) := by decide +kernel
theorem dX5_part_5 : decode cX5_part 5 = .ok (.ifCond .eq 17, 3) := by decide +kernel
theorem dX5_part_8 : decode cX5_part 8 = .ok (.aload_n 0, 1) := by decide +kernel
theorem dX5_part_9 : decode cX5_part 9 = .ok (.getfield 22, 3) := by decide +kernel
theorem dX5_part_12 : decode cX5_part 12 = .ok (.iload_n 1, 1) := by decide +kernel
theorem dX5_part_13 : decode cX5_part 13 = .ok (.bipush 8, 2) := by decide +kernel
theorem dX5_part_15 : decode cX5_part 15 = .ok (.imul, 1) := by decide +kernel
theorem dX5_part_16 : decode cX5_part 16 = .ok (.iload_n 2, 1) := by decide +kernel
theorem dX5_part_17 : decode cX5_part 17 = .ok (.iadd, 1) := by decide +kernel
theorem dX5_part_18 : decode cX5_part 18 = .ok (.iaload, 1) := by decide +kernel
theorem dX5_part_19 : decode cX5_part 19 = .ok (.goto 4, 3) := by decide +kernel
theorem dX5_part_22 : decode cX5_part 22 = .ok (.iconst 0, 1) := by decide +kernel
theorem dX5_part_23 : decode cX5_part 23 = .ok (.ireturn, 1) := by decide +kernel
theorem dX5_addPart_0 : decode cX5_addPart 0 = .ok (.iload_n 1, 1) := by decide +kernel
theorem dX5_addPart_1 : decode cX5_addPart 1 = .ok (.iload_n 2, 1) := by decide +kernel
theorem dX5_addPart_2 : decode cX5_addPart 2 = .ok (.invokestatic 62, 3) := by decide +kernel
theorem dX5_addPart_5 : decode cX5_addPart 5 = .ok (.ifCond .eq 18, 3) := by decide +kernel
theorem dX5_addPart_8 : decode cX5_addPart 8 = .ok (.aload_n 0, 1) := by decide +kernel
theorem dX5_addPart_9 : decode cX5_addPart 9 = .ok (.getfield 22, 3) := by decide +kernel
theorem dX5_addPart_12 : decode cX5_addPart 12 = .ok (.iload_n 1, 1) := by decide +kernel
theorem dX5_addPart_13 : decode cX5_addPart 13 = .ok (.bipush 8, 2) := by decide +kernel
theorem dX5_addPart_15 : decode cX5_addPart 15 = .ok (.imul, 1) := by decide +kernel
theorem dX5_addPart_16 : decode cX5_addPart 16 = .ok (.iload_n 2, 1) := by decide +kernel
theorem dX5_addPart_17 : decode cX5_addPart 17 = .ok (.iadd, 1) := by decide +kernel
theorem dX5_addPart_18 : decode cX5_addPart 18 = .ok (.dup2, 1) := by decide +kernel
theorem dX5_addPart_19 : decode cX5_addPart 19 = .ok (.iaload, 1) := by decide +kernel
theorem dX5_addPart_20 : decode cX5_addPart 20 = .ok (.iload_n 3, 1) := by decide +kernel
theorem dX5_addPart_21 : decode cX5_addPart 21 = .ok (.iadd, 1) := by decide +kernel
theorem dX5_addPart_22 : decode cX5_addPart 22 = .ok (.iastore, 1) := by decide +kernel
theorem dX5_addPart_23 : decode cX5_addPart 23 = .ok (.return_, 1) := by decide +kernel
theorem dX5_setPart_0 : decode cX5_setPart 0 = .ok (.iload_n 1, 1) := by decide +kernel
theorem dX5_setPart_1 : decode cX5_setPart 1 = .ok (.iload_n 2, 1) := by decide +kernel
theorem dX5_setPart_2 : decode cX5_setPart 2 = .ok (.invokestatic 62, 3) := by decide +kernel
theorem dX5_setPart_5 : decode cX5_setPart 5 = .ok (.ifCond .eq 15, 3) := by decide +kernel
theorem dX5_setPart_8 : decode cX5_setPart 8 = .ok (.aload_n 0, 1) := by decide +kernel
theorem dX5_setPart_9 : decode cX5_setPart 9 = .ok (.getfield 22, 3) := by decide +kernel
theorem dX5_setPart_12 : decode cX5_setPart 12 = .ok (.iload_n 1, 1) := by decide +kernel
theorem dX5_setPart_13 : decode cX5_setPart 13 = .ok (.bipush 8, 2) := by decide +kernel
theorem dX5_setPart_15 : decode cX5_setPart 15 = .ok (.imul, 1) := by decide +kernel
theorem dX5_setPart_16 : decode cX5_setPart 16 = .ok (.iload_n 2, 1) := by decide +kernel
theorem dX5_setPart_17 : decode cX5_setPart 17 = .ok (.iadd, 1) := by decide +kernel
theorem dX5_setPart_18 : decode cX5_setPart 18 = .ok (.iload_n 3, 1) := by decide +kernel
theorem dX5_setPart_19 : decode cX5_setPart 19 = .ok (.iastore, 1) := by decide +kernel
theorem dX5_setPart_20 : decode cX5_setPart 20 = .ok (.return_, 1) := by decide +kernel
theorem dX5_setOrder_0 : decode cX5_setOrder 0 = .ok (.aload_n 0, 1) := by decide +kernel
theorem dX5_setOrder_1 : decode cX5_setOrder 1 = .ok (.iload_n 1, 1) := by decide +kernel
theorem dX5_setOrder_2 : decode cX5_setOrder 2 = .ok (.iconst 2, 1) := by decide +kernel
theorem dX5_setOrder_3 : decode cX5_setOrder 3 = .ok (.iload_n 2, 1) := by decide +kernel
theorem dX5_setOrder_4 : decode cX5_setOrder 4 = .ok (.invokevirtual 66, 3) := by decide +kernel
theorem dX5_setOrder_7 : decode cX5_setOrder 7 = .ok (.aload_n 0, 1) := by decide +kernel
theorem dX5_setOrder_8 : decode cX5_setOrder 8 = .ok (.iload_n 1, 1) := by decide +kernel
theorem dX5_setOrder_9 : decode cX5_setOrder 9 = .ok (.iconst 3, 1) := by decide +kernel
theorem dX5_setOrder_10 : decode cX5_setOrder 10 = .ok (.iload_n 3, 1) := by decide +kernel
theorem dX5_setOrder_11 : decode cX5_setOrder 11 = .ok (.invokevirtual 66, 3) := by decide +kernel
theorem dX5_setOrder_14 : decode cX5_setOrder 14 = .ok (.aload_n 0, 1) := by decide +kernel
theorem dX5_setOrder_15 : decode cX5_setOrder 15 = .ok (.iload_n 1, 1) := by decide +kernel
theorem dX5_setOrder_16 : decode cX5_setOrder 16 = .ok (.iconst 4, 1) := by decide +kernel
theorem dX5_setOrder_17 : decode cX5_setOrder 17 = .ok (.iload 4, 2) := by decide +kernel
theorem dX5_setOrder_19 : decode cX5_setOrder 19 = .ok (.invokevirtual 66, 3) := by decide +kernel
theorem dX5_setOrder_22 : decode cX5_setOrder 22 = .ok (.aload_n 0, 1) := by decide +kernel
theorem dX5_setOrder_23 : decode cX5_setOrder 23 = .ok (.iload_n 1, 1) := by decide +kernel
theorem dX5_setOrder_24 : decode cX5_setOrder 24 = .ok (.iconst 5, 1) := by decide +kernel
theorem dX5_setOrder_25 : decode cX5_setOrder 25 = .ok (.iload 5, 2) := by decide +kernel
theorem dX5_setOrder_27 : decode cX5_setOrder 27 = .ok (.invokevirtual 66, 3) := by decide +kernel
theorem dX5_setOrder_30 : decode cX5_setOrder 30 = .ok (.return_, 1) := by decide +kernel
theorem dX5_isOrdered_0 : decode cX5_isOrdered 0 = .ok (.aload_n 0, 1) := by decide +kernel
theorem dX5_isOrdered_1 : decode cX5_isOrdered 1 = .ok (.iload_n 1, 1) := by decide +kernel
theorem dX5_isOrdered_2 : decode cX5_isOrdered 2 = .ok (.iconst 2, 1) := by decide +kernel
theorem dX5_isOrdered_3 : decode cX5_isOrdered 3 = .ok (.invokevirtual 69, 3) := by decide +kernel
theorem dX5_isOrdered_6 : decode cX5_isOrdered 6 = .ok (.iload_n 2, 1) := by decide +kernel
theorem dX5_isOrdered_7 : decode cX5_isOrdered 7 = .ok (.if_icmp .ne 39, 3) := by decide +kernel
theorem dX5_isOrdered_10 : decode cX5_isOrdered 10 = .ok (.aload_n 0, 1) := by decide +kernel
theorem dX5_isOrdered_11 : decode cX5_isOrdered 11 = .ok (.iload_n 1, 1) := by decide +kernel
theorem dX5_isOrdered_12 : decode cX5_isOrdered 12 = .ok (.iconst 3, 1) := by decide +kernel
theorem dX5_isOrdered_13 : decode cX5_isOrdered 13 = .ok (.invokevirtual 69, 3) := by decide +kernel
theorem dX5_isOrdered_16 : decode cX5_isOrdered 16 = .ok (.iload_n 3, 1) := by decide +kernel
theorem dX5_isOrdered_17 : decode cX5_isOrdered 17 = .ok (.if_icmp .ne 29, 3) := by decide +kernel
theorem dX5_isOrdered_20 : decode cX5_isOrdered 20 = .ok (.aload_n 0, 1) := by decide +kernel
theorem dX5_isOrdered_21 : decode cX5_isOrdered 21 = .ok (.iload_n 1, 1) := by decide +kernel
theorem dX5_isOrdered_22 : decode cX5_isOrdered 22 = .ok (.iconst 4, 1) := by decide +kernel
theorem dX5_isOrdered_23 : decode cX5_isOrdered 23 = .ok (.invokevirtual 69, 3) := by decide +kernel
theorem dX5_isOrdered_26 : decode cX5_isOrdered 26 = .ok (.iload 4, 2) := by decide +kernel
theorem dX5_isOrdered_28 : decode cX5_isOrdered 28 = .ok (.if_icmp .ne 18, 3) := by decide +kernel
theorem dX5_isOrdered_31 : decode cX5_isOrdered 31 = .ok (.aload_n 0, 1) := by decide +kernel
theorem dX5_isOrdered_32 : decode cX5_isOrdered 32 = .ok (.iload_n 1, 1) := by decide +kernel
theorem dX5_isOrdered_33 : decode cX5_isOrdered 33 = .ok (.iconst 5, 1) := by decide +kernel
theorem dX5_isOrdered_34 : decode cX5_isOrdered 34 = .ok (.invokevirtual 69, 3) := by decide +kernel
theorem dX5_isOrdered_37 : decode cX5_isOrdered 37 = .ok (.iload 5, 2) := by decide +kernel
theorem dX5_isOrdered_39 : decode cX5_isOrdered 39 = .ok (.if_icmp .ne 7, 3) := by decide +kernel
theorem dX5_isOrdered_42 : decode cX5_isOrdered 42 = .ok (.iconst 1, 1) := by decide +kernel
theorem dX5_isOrdered_43 : decode cX5_isOrdered 43 = .ok (.goto 4, 3) := by decide +kernel
theorem dX5_isOrdered_46 : decode cX5_isOrdered 46 = .ok (.iconst 0, 1) := by decide +kernel
theorem dX5_isOrdered_47 : decode cX5_isOrdered 47 = .ok (.ireturn, 1) := by decide +kernel
theorem dX5_hasOrder_0 : decode cX5_hasOrder 0 = .ok (.aload_n 0, 1) := by decide +kernel
theorem dX5_hasOrder_1 : decode cX5_hasOrder 1 = .ok (.iload_n 1, 1) := by decide +kernel
theorem dX5_hasOrder_2 : decode cX5_hasOrder 2 = .ok (.iconst 2, 1) := by decide +kernel
theorem dX5_hasOrder_3 : decode cX5_hasOrder 3 = .ok (.invokevirtual 69, 3) := by decide +kernel
theorem dX5_hasOrder_6 : decode cX5_hasOrder 6 = .ok (.ifCond .le 7, 3) := by decide +kernel
theorem dX5_hasOrder_9 : decode cX5_hasOrder 9 = .ok (.iconst 1, 1) := by decide +kernel
theorem dX5_hasOrder_10 : decode cX5_hasOrder 10 = .ok (.goto 4, 3) := by decide +kernel
theorem dX5_hasOrder_13 : decode cX5_hasOrder 13 = .ok (.iconst 0, 1) := by decide +kernel
theorem dX5_hasOrder_14 : decode cX5_hasOrder 14 = .ok (.ireturn, 1) := by decide +kernel
theorem dX5_waterAt_0 : decode cX5_waterAt 0 = .ok (.iload_n 1, 1) := by decide +kernel
theorem dX5_waterAt_1 : decode cX5_waterAt 1 = .ok (.ifCond .lt 23, 3) := by decide +kernel
theorem dX5_waterAt_4 : decode cX5_waterAt 4 = .ok (.iload_n 1, 1) := by decide +kernel
theorem dX5_waterAt_5 : decode cX5_waterAt 5 = .ok (.bipush 8, 2) := by decide +kernel
theorem dX5_waterAt_7 : decode cX5_waterAt 7 = .ok (.if_icmp .ge 17, 3) := by decide +kernel
theorem dX5_waterAt_10 : decode cX5_waterAt 10 = .ok (.iload_n 2, 1) := by decide +kernel
theorem dX5_waterAt_11 : decode cX5_waterAt 11 = .ok (.ifCond .lt 13, 3) := by decide +kernel
theorem dX5_waterAt_14 : decode cX5_waterAt 14 = .ok (.iload_n 2, 1) := by decide +kernel
theorem dX5_waterAt_15 : decode cX5_waterAt 15 = .ok (.bipush 6, 2) := by decide +kernel
theorem dX5_waterAt_17 : decode cX5_waterAt 17 = .ok (.if_icmp .ge 7, 3) := by decide +kernel
theorem dX5_waterAt_20 : decode cX5_waterAt 20 = .ok (.iconst 1, 1) := by decide +kernel
theorem dX5_waterAt_21 : decode cX5_waterAt 21 = .ok (.goto 4, 3) := by decide +kernel
theorem dX5_waterAt_24 : decode cX5_waterAt 24 = .ok (.iconst 0, 1) := by decide +kernel
theorem dX5_waterAt_25 : decode cX5_waterAt 25 = .ok (.istore_n 3, 1) := by decide +kernel
theorem dX5_waterAt_26 : decode cX5_waterAt 26 = .ok (.iload_n 3, 1) := by decide +kernel
theorem dX5_waterAt_27 : decode cX5_waterAt 27 = .ok (.ifCond .eq 17, 3) := by decide +kernel
theorem dX5_waterAt_30 : decode cX5_waterAt 30 = .ok (.aload_n 0, 1) := by decide +kernel
theorem dX5_waterAt_31 : decode cX5_waterAt 31 = .ok (.getfield 18, 3) := by decide +kernel
theorem dX5_waterAt_34 : decode cX5_waterAt 34 = .ok (.iload_n 2, 1) := by decide +kernel
theorem dX5_waterAt_35 : decode cX5_waterAt 35 = .ok (.bipush 8, 2) := by decide +kernel
theorem dX5_waterAt_37 : decode cX5_waterAt 37 = .ok (.imul, 1) := by decide +kernel
theorem dX5_waterAt_38 : decode cX5_waterAt 38 = .ok (.iload_n 1, 1) := by decide +kernel
theorem dX5_waterAt_39 : decode cX5_waterAt 39 = .ok (.iadd, 1) := by decide +kernel
theorem dX5_waterAt_40 : decode cX5_waterAt 40 = .ok (.iaload, 1) := by decide +kernel
theorem dX5_waterAt_41 : decode cX5_waterAt 41 = .ok (.goto 4, 3) := by decide +kernel
theorem dX5_waterAt_44 : decode cX5_waterAt 44 = .ok (.iconst 0, 1) := by decide +kernel
theorem dX5_waterAt_45 : decode cX5_waterAt 45 = .ok (.ireturn, 1) := by decide +kernel
theorem dX5_waterOf_0 : decode cX5_waterOf 0 = .ok (.iconst 0, 1) := by decide +kernel
theorem dX5_waterOf_1 : decode cX5_waterOf 1 = .ok (.istore_n 3, 1) := by decide +kernel
theorem dX5_waterOf_2 : decode cX5_waterOf 2 = .ok (.iconst 0, 1) := by decide +kernel
theorem dX5_waterOf_3 : decode cX5_waterOf 3 = .ok (.istore 4, 2) := by decide +kernel
theorem dX5_waterOf_5 : decode cX5_waterOf 5 = .ok (.iload 4, 2) := by decide +kernel
theorem dX5_waterOf_7 : decode cX5_waterOf 7 = .ok (.bipush 48, 2) := by decide +kernel
theorem dX5_waterOf_9 : decode cX5_waterOf 9 = .ok (.if_icmp .ge 30, 3) := by decide +kernel
theorem dX5_waterOf_12 : decode cX5_waterOf 12 = .ok (.aload_n 1, 1) := by decide +kernel
theorem dX5_waterOf_13 : decode cX5_waterOf 13 = .ok (.getfield 73, 3) := by decide +kernel
theorem dX5_waterOf_16 : decode cX5_waterOf 16 = .ok (.iload 4, 2) := by decide +kernel
theorem dX5_waterOf_18 : decode cX5_waterOf 18 = .ok (.iaload, 1) := by decide +kernel
theorem dX5_waterOf_19 : decode cX5_waterOf 19 = .ok (.iload_n 2, 1) := by decide +kernel
theorem dX5_waterOf_20 : decode cX5_waterOf 20 = .ok (.if_icmp .ne 13, 3) := by decide +kernel
theorem dX5_waterOf_23 : decode cX5_waterOf 23 = .ok (.iload_n 3, 1) := by decide +kernel
theorem dX5_waterOf_24 : decode cX5_waterOf 24 = .ok (.aload_n 0, 1) := by decide +kernel
theorem dX5_waterOf_25 : decode cX5_waterOf 25 = .ok (.getfield 18, 3) := by decide +kernel
theorem dX5_waterOf_28 : decode cX5_waterOf 28 = .ok (.iload 4, 2) := by decide +kernel
theorem dX5_waterOf_30 : decode cX5_waterOf 30 = .ok (.iaload, 1) := by decide +kernel
theorem dX5_waterOf_31 : decode cX5_waterOf 31 = .ok (.iadd, 1) := by decide +kernel
theorem dX5_waterOf_32 : decode cX5_waterOf 32 = .ok (.istore_n 3, 1) := by decide +kernel
theorem dX5_waterOf_33 : decode cX5_waterOf 33 = .ok (.iinc 4 1, 3) := by decide +kernel
theorem dX5_waterOf_36 : decode cX5_waterOf 36 = .ok (.goto (-31), 3) := by decide +kernel
theorem dX5_waterOf_39 : decode cX5_waterOf 39 = .ok (.iload_n 3, 1) := by decide +kernel
theorem dX5_waterOf_40 : decode cX5_waterOf 40 = .ok (.ireturn, 1) := by decide +kernel
theorem dX5_woven_0 : decode cX5_woven 0 = .ok (.iconst 0, 1) := by decide +kernel
theorem dX5_woven_1 : decode cX5_woven 1 = .ok (.istore_n 1, 1) := by decide +kernel
theorem dX5_woven_2 : decode cX5_woven 2 = .ok (.iconst 0, 1) := by decide +kernel
theorem dX5_woven_3 : decode cX5_woven 3 = .ok (.istore_n 2, 1) := by decide +kernel
theorem dX5_woven_4 : decode cX5_woven 4 = .ok (.iload_n 2, 1) := by decide +kernel
theorem dX5_woven_5 : decode cX5_woven 5 = .ok (.iconst 4, 1) := by decide +kernel
theorem dX5_woven_6 : decode cX5_woven 6 = .ok (.if_icmp .ge 19, 3) := by decide +kernel
theorem dX5_woven_9 : decode cX5_woven 9 = .ok (.iload_n 1, 1) := by decide +kernel
theorem dX5_woven_10 : decode cX5_woven 10 = .ok (.aload_n 0, 1) := by decide +kernel
theorem dX5_woven_11 : decode cX5_woven 11 = .ok (.iload_n 2, 1) := by decide +kernel
theorem dX5_woven_12 : decode cX5_woven 12 = .ok (.bipush 6, 2) := by decide +kernel
theorem dX5_woven_14 : decode cX5_woven 14 = .ok (.invokevirtual 69, 3) := by decide +kernel
theorem dX5_woven_17 : decode cX5_woven 17 = .ok (.iadd, 1) := by decide +kernel
theorem dX5_woven_18 : decode cX5_woven 18 = .ok (.istore_n 1, 1) := by decide +kernel
theorem dX5_woven_19 : decode cX5_woven 19 = .ok (.iinc 2 1, 3) := by decide +kernel
theorem dX5_woven_22 : decode cX5_woven 22 = .ok (.goto (-18), 3) := by decide +kernel
theorem dX5_woven_25 : decode cX5_woven 25 = .ok (.iload_n 1, 1) := by decide +kernel
theorem dX5_woven_26 : decode cX5_woven 26 = .ok (.ireturn, 1) := by decide +kernel
theorem dX6_nameWith_0 : decode cX6_nameWith 0 = .ok (.lload_n 0, 1) := by decide +kernel
theorem dX6_nameWith_1 : decode cX6_nameWith 1 = .ok (.ldc2_w 43, 3) := by decide +kernel
theorem dX6_nameWith_4 : decode cX6_nameWith 4 = .ok (.lmul, 1) := by decide +kernel
theorem dX6_nameWith_5 : decode cX6_nameWith 5 = .ok (.iload_n 2, 1) := by decide +kernel
theorem dX6_nameWith_6 : decode cX6_nameWith 6 = .ok (.bipush 97, 2) := by decide +kernel
theorem dX6_nameWith_8 : decode cX6_nameWith 8 = .ok (.isub, 1) := by decide +kernel
theorem dX6_nameWith_9 : decode cX6_nameWith 9 = .ok (.iconst 1, 1) := by decide +kernel
theorem dX6_nameWith_10 : decode cX6_nameWith 10 = .ok (.iadd, 1) := by decide +kernel
theorem dX6_nameWith_11 : decode cX6_nameWith 11 = .ok (.i2l, 1) := by decide +kernel
theorem dX6_nameWith_12 : decode cX6_nameWith 12 = .ok (.ladd, 1) := by decide +kernel
theorem dX6_nameWith_13 : decode cX6_nameWith 13 = .ok (.lreturn, 1) := by decide +kernel
theorem dX6_letterAt_0 : decode cX6_letterAt 0 = .ok (.lload_n 0, 1) := by decide +kernel
theorem dX6_letterAt_1 : decode cX6_letterAt 1 = .ok (.iconst 5, 1) := by decide +kernel
theorem dX6_letterAt_2 : decode cX6_letterAt 2 = .ok (.iload_n 2, 1) := by decide +kernel
theorem dX6_letterAt_3 : decode cX6_letterAt 3 = .ok (.imul, 1) := by decide +kernel
theorem dX6_letterAt_4 : decode cX6_letterAt 4 = .ok (.lushr, 1) := by decide +kernel
theorem dX6_letterAt_5 : decode cX6_letterAt 5 = .ok (.ldc2_w 45, 3) := by decide +kernel
theorem dX6_letterAt_8 : decode cX6_letterAt 8 = .ok (.land, 1) := by decide +kernel
theorem dX6_letterAt_9 : decode cX6_letterAt 9 = .ok (.l2i, 1) := by decide +kernel
theorem dX6_letterAt_10 : decode cX6_letterAt 10 = .ok (.bipush 97, 2) := by decide +kernel
theorem dX6_letterAt_12 : decode cX6_letterAt 12 = .ok (.iadd, 1) := by decide +kernel
theorem dX6_letterAt_13 : decode cX6_letterAt 13 = .ok (.iconst 1, 1) := by decide +kernel
theorem dX6_letterAt_14 : decode cX6_letterAt 14 = .ok (.isub, 1) := by decide +kernel
theorem dX6_letterAt_15 : decode cX6_letterAt 15 = .ok (.ireturn, 1) := by decide +kernel
theorem dX6_lengthOf_0 : decode cX6_lengthOf 0 = .ok (.iconst 0, 1) := by decide +kernel
theorem dX6_lengthOf_1 : decode cX6_lengthOf 1 = .ok (.istore_n 2, 1) := by decide +kernel
theorem dX6_lengthOf_2 : decode cX6_lengthOf 2 = .ok (.iload_n 2, 1) := by decide +kernel
theorem dX6_lengthOf_3 : decode cX6_lengthOf 3 = .ok (.bipush 8, 2) := by decide +kernel
theorem dX6_lengthOf_5 : decode cX6_lengthOf 5 = .ok (.if_icmp .ge 19, 3) := by decide +kernel
theorem dX6_lengthOf_8 : decode cX6_lengthOf 8 = .ok (.lload_n 0, 1) := by decide +kernel
theorem dX6_lengthOf_9 : decode cX6_lengthOf 9 = .ok (.iconst 5, 1) := by decide +kernel
theorem dX6_lengthOf_10 : decode cX6_lengthOf 10 = .ok (.iload_n 2, 1) := by decide +kernel
theorem dX6_lengthOf_11 : decode cX6_lengthOf 11 = .ok (.imul, 1) := by decide +kernel
theorem dX6_lengthOf_12 : decode cX6_lengthOf 12 = .ok (.lushr, 1) := by decide +kernel
theorem dX6_lengthOf_13 : decode cX6_lengthOf 13 = .ok (.lconst 0, 1) := by decide +kernel
theorem dX6_lengthOf_14 : decode cX6_lengthOf 14 = .ok (.lcmp, 1) := by decide +kernel
theorem dX6_lengthOf_15 : decode cX6_lengthOf 15 = .ok (.ifCond .eq 9, 3) := by decide +kernel
theorem dX6_lengthOf_18 : decode cX6_lengthOf 18 = .ok (.iinc 2 1, 3) := by decide +kernel
theorem dX6_lengthOf_21 : decode cX6_lengthOf 21 = .ok (.goto (-19), 3) := by decide +kernel
theorem dX6_lengthOf_24 : decode cX6_lengthOf 24 = .ok (.iload_n 2, 1) := by decide +kernel
theorem dX6_lengthOf_25 : decode cX6_lengthOf 25 = .ok (.ireturn, 1) := by decide +kernel
theorem dX6_isBlank_0 : decode cX6_isBlank 0 = .ok (.iload_n 0, 1) := by decide +kernel
theorem dX6_isBlank_1 : decode cX6_isBlank 1 = .ok (.bipush 9, 2) := by decide +kernel
theorem dX6_isBlank_3 : decode cX6_isBlank 3 = .ok (.if_icmp .eq 21, 3) := by decide +kernel
theorem dX6_isBlank_6 : decode cX6_isBlank 6 = .ok (.iload_n 0, 1) := by decide +kernel
theorem dX6_isBlank_7 : decode cX6_isBlank 7 = .ok (.bipush 10, 2) := by decide +kernel
theorem dX6_isBlank_9 : decode cX6_isBlank 9 = .ok (.if_icmp .eq 15, 3) := by decide +kernel
theorem dX6_isBlank_12 : decode cX6_isBlank 12 = .ok (.iload_n 0, 1) := by decide +kernel
theorem dX6_isBlank_13 : decode cX6_isBlank 13 = .ok (.bipush 13, 2) := by decide +kernel
theorem dX6_isBlank_15 : decode cX6_isBlank 15 = .ok (.if_icmp .eq 9, 3) := by decide +kernel
theorem dX6_isBlank_18 : decode cX6_isBlank 18 = .ok (.iload_n 0, 1) := by decide +kernel
theorem dX6_isBlank_19 : decode cX6_isBlank 19 = .ok (.bipush 32, 2) := by decide +kernel
theorem dX6_isBlank_21 : decode cX6_isBlank 21 = .ok (.if_icmp .ne 7, 3) := by decide +kernel
theorem dX6_isBlank_24 : decode cX6_isBlank 24 = .ok (.iconst 1, 1) := by decide +kernel
theorem dX6_isBlank_25 : decode cX6_isBlank 25 = .ok (.goto 4, 3) := by decide +kernel
theorem dX6_isBlank_28 : decode cX6_isBlank 28 = .ok (.iconst 0, 1) := by decide +kernel
theorem dX6_isBlank_29 : decode cX6_isBlank 29 = .ok (.ireturn, 1) := by decide +kernel
theorem dX6_isLetter_0 : decode cX6_isLetter 0 = .ok (.iload_n 0, 1) := by decide +kernel
theorem dX6_isLetter_1 : decode cX6_isLetter 1 = .ok (.bipush 97, 2) := by decide +kernel
theorem dX6_isLetter_3 : decode cX6_isLetter 3 = .ok (.if_icmp .lt 13, 3) := by decide +kernel
theorem dX6_isLetter_6 : decode cX6_isLetter 6 = .ok (.iload_n 0, 1) := by decide +kernel
theorem dX6_isLetter_7 : decode cX6_isLetter 7 = .ok (.bipush 122, 2) := by decide +kernel
theorem dX6_isLetter_9 : decode cX6_isLetter 9 = .ok (.if_icmp .gt 7, 3) := by decide +kernel
theorem dX6_isLetter_12 : decode cX6_isLetter 12 = .ok (.iconst 1, 1) := by decide +kernel
theorem dX6_isLetter_13 : decode cX6_isLetter 13 = .ok (.goto 4, 3) := by decide +kernel
theorem dX6_isLetter_16 : decode cX6_isLetter 16 = .ok (.iconst 0, 1) := by decide +kernel
theorem dX6_isLetter_17 : decode cX6_isLetter 17 = .ok (.ireturn, 1) := by decide +kernel
theorem dX6_isDigit_0 : decode cX6_isDigit 0 = .ok (.iload_n 0, 1) := by decide +kernel
theorem dX6_isDigit_1 : decode cX6_isDigit 1 = .ok (.bipush 48, 2) := by decide +kernel
theorem dX6_isDigit_3 : decode cX6_isDigit 3 = .ok (.if_icmp .lt 13, 3) := by decide +kernel
theorem dX6_isDigit_6 : decode cX6_isDigit 6 = .ok (.iload_n 0, 1) := by decide +kernel
theorem dX6_isDigit_7 : decode cX6_isDigit 7 = .ok (.bipush 57, 2) := by decide +kernel
theorem dX6_isDigit_9 : decode cX6_isDigit 9 = .ok (.if_icmp .gt 7, 3) := by decide +kernel
theorem dX6_isDigit_12 : decode cX6_isDigit 12 = .ok (.iconst 1, 1) := by decide +kernel
theorem dX6_isDigit_13 : decode cX6_isDigit 13 = .ok (.goto 4, 3) := by decide +kernel
theorem dX6_isDigit_16 : decode cX6_isDigit 16 = .ok (.iconst 0, 1) := by decide +kernel
theorem dX6_isDigit_17 : decode cX6_isDigit 17 = .ok (.ireturn, 1) := by decide +kernel
theorem dX6_scan_0 : decode cX6_scan 0 = .ok (.iload_n 2, 1) := by decide +kernel
theorem dX6_scan_1 : decode cX6_scan 1 = .ok (.aload_n 1, 1) := by decide +kernel
theorem dX6_scan_2 : decode cX6_scan 2 = .ok (.arraylength, 1) := by decide +kernel
theorem dX6_scan_3 : decode cX6_scan 3 = .ok (.invokestatic 47, 3) := by decide +kernel
theorem dX6_scan_6 : decode cX6_scan 6 = .ok (.istore_n 3, 1) := by decide +kernel
theorem dX6_scan_7 : decode cX6_scan 7 = .ok (.iconst 0, 1) := by decide +kernel
theorem dX6_scan_8 : decode cX6_scan 8 = .ok (.istore 4, 2) := by decide +kernel
theorem dX6_scan_10 : decode cX6_scan 10 = .ok (.aload_n 0, 1) := by decide +kernel
theorem dX6_scan_11 : decode cX6_scan 11 = .ok (.iconst 0, 1) := by decide +kernel
theorem dX6_scan_12 : decode cX6_scan 12 = .ok (.putfield 23, 3) := by decide +kernel
theorem dX6_scan_15 : decode cX6_scan 15 = .ok (.iconst 0, 1) := by decide +kernel
theorem dX6_scan_16 : decode cX6_scan 16 = .ok (.istore 5, 2) := by decide +kernel
theorem dX6_scan_18 : decode cX6_scan 18 = .ok (.iload 5, 2) := by decide +kernel
theorem dX6_scan_20 : decode cX6_scan 20 = .ok (.iload_n 3, 1) := by decide +kernel
theorem dX6_scan_21 : decode cX6_scan 21 = .ok (.if_icmp .ge 97, 3) := by decide +kernel
theorem dX6_scan_24 : decode cX6_scan 24 = .ok (.iload 4, 2) := by decide +kernel
theorem dX6_scan_26 : decode cX6_scan 26 = .ok (.iload_n 3, 1) := by decide +kernel
theorem dX6_scan_27 : decode cX6_scan 27 = .ok (.if_icmp .ge 91, 3) := by decide +kernel
theorem dX6_scan_30 : decode cX6_scan 30 = .ok (.aload_n 0, 1) := by decide +kernel
theorem dX6_scan_31 : decode cX6_scan 31 = .ok (.getfield 23, 3) := by decide +kernel
theorem dX6_scan_34 : decode cX6_scan 34 = .ok (.sipush 400, 3) := by decide +kernel
theorem dX6_scan_37 : decode cX6_scan 37 = .ok (.if_icmp .gt 81, 3) := by decide +kernel
theorem dX6_scan_40 : decode cX6_scan 40 = .ok (.aload_n 1, 1) := by decide +kernel
theorem dX6_scan_41 : decode cX6_scan 41 = .ok (.iload 4, 2) := by decide +kernel
theorem dX6_scan_43 : decode cX6_scan 43 = .ok (.baload, 1) := by decide +kernel
theorem dX6_scan_44 : decode cX6_scan 44 = .ok (.istore 6, 2) := by decide +kernel
theorem dX6_scan_46 : decode cX6_scan 46 = .ok (.iload 6, 2) := by decide +kernel
theorem dX6_scan_48 : decode cX6_scan 48 = .ok (.invokestatic 53, 3) := by decide +kernel
theorem dX6_scan_51 : decode cX6_scan 51 = .ok (.ifCond .eq 9, 3) := by decide +kernel
theorem dX6_scan_54 : decode cX6_scan 54 = .ok (.iinc 4 1, 3) := by decide +kernel
theorem dX6_scan_57 : decode cX6_scan 57 = .ok (.goto 55, 3) := by decide +kernel
theorem dX6_scan_60 : decode cX6_scan 60 = .ok (.iload 6, 2) := by decide +kernel
theorem dX6_scan_62 : decode cX6_scan 62 = .ok (.invokestatic 57, 3) := by decide +kernel
theorem dX6_scan_65 : decode cX6_scan 65 = .ok (.ifCond .eq 16, 3) := by decide +kernel
theorem dX6_scan_68 : decode cX6_scan 68 = .ok (.aload_n 0, 1) := by decide +kernel
theorem dX6_scan_69 : decode cX6_scan 69 = .ok (.aload_n 1, 1) := by decide +kernel
theorem dX6_scan_70 : decode cX6_scan 70 = .ok (.iload 4, 2) := by decide +kernel
theorem dX6_scan_72 : decode cX6_scan 72 = .ok (.iload_n 3, 1) := by decide +kernel
theorem dX6_scan_73 : decode cX6_scan 73 = .ok (.invokevirtual 60, 3) := by decide +kernel
theorem dX6_scan_76 : decode cX6_scan 76 = .ok (.istore 4, 2) := by decide +kernel
theorem dX6_scan_78 : decode cX6_scan 78 = .ok (.goto 34, 3) := by decide +kernel
theorem dX6_scan_81 : decode cX6_scan 81 = .ok (.iload 6, 2) := by decide +kernel
theorem dX6_scan_83 : decode cX6_scan 83 = .ok (.invokestatic 64, 3) := by decide +kernel
theorem dX6_scan_86 : decode cX6_scan 86 = .ok (.ifCond .eq 16, 3) := by decide +kernel
theorem dX6_scan_89 : decode cX6_scan 89 = .ok (.aload_n 0, 1) := by decide +kernel
theorem dX6_scan_90 : decode cX6_scan 90 = .ok (.aload_n 1, 1) := by decide +kernel
theorem dX6_scan_91 : decode cX6_scan 91 = .ok (.iload 4, 2) := by decide +kernel
theorem dX6_scan_93 : decode cX6_scan 93 = .ok (.iload_n 3, 1) := by decide +kernel
theorem dX6_scan_94 : decode cX6_scan 94 = .ok (.invokevirtual 67, 3) := by decide +kernel
theorem dX6_scan_97 : decode cX6_scan 97 = .ok (.istore 4, 2) := by decide +kernel
theorem dX6_scan_99 : decode cX6_scan 99 = .ok (.goto 13, 3) := by decide +kernel
theorem dX6_scan_102 : decode cX6_scan 102 = .ok (.aload_n 0, 1) := by decide +kernel
theorem dX6_scan_103 : decode cX6_scan 103 = .ok (.iload 6, 2) := by decide +kernel
theorem dX6_scan_105 : decode cX6_scan 105 = .ok (.iload 4, 2) := by decide +kernel
theorem dX6_scan_107 : decode cX6_scan 107 = .ok (.invokevirtual 70, 3) := by decide +kernel
theorem dX6_scan_110 : decode cX6_scan 110 = .ok (.istore 4, 2) := by decide +kernel
theorem dX6_scan_112 : decode cX6_scan 112 = .ok (.iinc 5 1, 3) := by decide +kernel
theorem dX6_scan_115 : decode cX6_scan 115 = .ok (.goto (-97), 3) := by decide +kernel
theorem dX6_scan_118 : decode cX6_scan 118 = .ok (.aload_n 0, 1) := by decide +kernel
theorem dX6_scan_119 : decode cX6_scan 119 = .ok (.bipush 32, 2) := by decide +kernel
theorem dX6_scan_121 : decode cX6_scan 121 = .ok (.iload_n 3, 1) := by decide +kernel
theorem dX6_scan_122 : decode cX6_scan 122 = .ok (.lconst 0, 1) := by decide +kernel
theorem dX6_scan_123 : decode cX6_scan 123 = .ok (.invokevirtual 73, 3) := by decide +kernel
theorem dX6_scan_126 : decode cX6_scan 126 = .ok (.return_, 1) := by decide +kernel
theorem dX6_put_0 : decode cX6_put 0 = .ok (.aload_n 0, 1) := by decide +kernel
theorem dX6_put_1 : decode cX6_put 1 = .ok (.getfield 23, 3) := by decide +kernel
theorem dX6_put_4 : decode cX6_put 4 = .ok (.sipush 400, 3) := by decide +kernel
theorem dX6_put_7 : decode cX6_put 7 = .ok (.if_icmp .gt 43, 3) := by decide +kernel
theorem dX6_put_10 : decode cX6_put 10 = .ok (.aload_n 0, 1) := by decide +kernel
theorem dX6_put_11 : decode cX6_put 11 = .ok (.getfield 13, 3) := by decide +kernel
theorem dX6_put_14 : decode cX6_put 14 = .ok (.aload_n 0, 1) := by decide +kernel
theorem dX6_put_15 : decode cX6_put 15 = .ok (.getfield 23, 3) := by decide +kernel
theorem dX6_put_18 : decode cX6_put 18 = .ok (.iload_n 1, 1) := by decide +kernel
theorem dX6_put_19 : decode cX6_put 19 = .ok (.iastore, 1) := by decide +kernel
theorem dX6_put_20 : decode cX6_put 20 = .ok (.aload_n 0, 1) := by decide +kernel
theorem dX6_put_21 : decode cX6_put 21 = .ok (.getfield 17, 3) := by decide +kernel
theorem dX6_put_24 : decode cX6_put 24 = .ok (.aload_n 0, 1) := by decide +kernel
theorem dX6_put_25 : decode cX6_put 25 = .ok (.getfield 23, 3) := by decide +kernel
theorem dX6_put_28 : decode cX6_put 28 = .ok (.iload_n 2, 1) := by decide +kernel
theorem dX6_put_29 : decode cX6_put 29 = .ok (.iastore, 1) := by decide +kernel
theorem dX6_put_30 : decode cX6_put 30 = .ok (.aload_n 0, 1) := by decide +kernel
theorem dX6_put_31 : decode cX6_put 31 = .ok (.getfield 20, 3) := by decide +kernel
theorem dX6_put_34 : decode cX6_put 34 = .ok (.aload_n 0, 1) := by decide +kernel
theorem dX6_put_35 : decode cX6_put 35 = .ok (.getfield 23, 3) := by decide +kernel
theorem dX6_put_38 : decode cX6_put 38 = .ok (.lload_n 3, 1) := by decide +kernel
theorem dX6_put_39 : decode cX6_put 39 = .ok (.lastore, 1) := by decide +kernel
theorem dX6_put_40 : decode cX6_put 40 = .ok (.aload_n 0, 1) := by decide +kernel
theorem dX6_put_41 : decode cX6_put 41 = .ok (.dup, 1) := by decide +kernel
theorem dX6_put_42 : decode cX6_put 42 = .ok (.getfield 23, 3) := by decide +kernel
theorem dX6_put_45 : decode cX6_put 45 = .ok (.iconst 1, 1) := by decide +kernel
theorem dX6_put_46 : decode cX6_put 46 = .ok (.iadd, 1) := by decide +kernel
theorem dX6_put_47 : decode cX6_put 47 = .ok (.putfield 23, 3) := by decide +kernel
theorem dX6_put_50 : decode cX6_put 50 = .ok (.return_, 1) := by decide +kernel
theorem dX6_takeLetters_0 : decode cX6_takeLetters 0 = .ok (.lconst 0, 1) := by decide +kernel
theorem dX6_takeLetters_1 : decode cX6_takeLetters 1 = .ok (.lstore 4, 2) := by decide +kernel
theorem dX6_takeLetters_3 : decode cX6_takeLetters 3 = .ok (.iload_n 2, 1) := by decide +kernel
theorem dX6_takeLetters_4 : decode cX6_takeLetters 4 = .ok (.istore 6, 2) := by decide +kernel
theorem dX6_takeLetters_6 : decode cX6_takeLetters 6 = .ok (.iload 6, 2) := by decide +kernel
theorem dX6_takeLetters_8 : decode cX6_takeLetters 8 = .ok (.iload_n 3, 1) := by decide +kernel
theorem dX6_takeLetters_9 : decode cX6_takeLetters 9 = .ok (.if_icmp .ge 30, 3) := by decide +kernel
theorem dX6_takeLetters_12 : decode cX6_takeLetters 12 = .ok (.aload_n 1, 1) := by decide +kernel
theorem dX6_takeLetters_13 : decode cX6_takeLetters 13 = .ok (.iload 6, 2) := by decide +kernel
theorem dX6_takeLetters_15 : decode cX6_takeLetters 15 = .ok (.baload, 1) := by decide +kernel
theorem dX6_takeLetters_16 : decode cX6_takeLetters 16 = .ok (.invokestatic 57, 3) := by decide +kernel
theorem dX6_takeLetters_19 : decode cX6_takeLetters 19 = .ok (.ifCond .eq 20, 3) := by decide +kernel
theorem dX6_takeLetters_22 : decode cX6_takeLetters 22 = .ok (.lload 4, 2) := by decide +kernel
theorem dX6_takeLetters_24 : decode cX6_takeLetters 24 = .ok (.aload_n 1, 1) := by decide +kernel
theorem dX6_takeLetters_25 : decode cX6_takeLetters 25 = .ok (.iload 6, 2) := by decide +kernel
theorem dX6_takeLetters_27 : decode cX6_takeLetters 27 = .ok (.baload, 1) := by decide +kernel
theorem dX6_takeLetters_28 : decode cX6_takeLetters 28 = .ok (.invokestatic 39, 3) := by decide +kernel
theorem dX6_takeLetters_31 : decode cX6_takeLetters 31 = .ok (.lstore 4, 2) := by decide +kernel
theorem dX6_takeLetters_33 : decode cX6_takeLetters 33 = .ok (.iinc 6 1, 3) := by decide +kernel
theorem dX6_takeLetters_36 : decode cX6_takeLetters 36 = .ok (.goto (-30), 3) := by decide +kernel
theorem dX6_takeLetters_39 : decode cX6_takeLetters 39 = .ok (.iload 6, 2) := by decide +kernel
theorem dX6_takeLetters_41 : decode cX6_takeLetters 41 = .ok (.iload_n 2, 1) := by decide +kernel
theorem dX6_takeLetters_42 : decode cX6_takeLetters 42 = .ok (.isub, 1) := by decide +kernel
theorem dX6_takeLetters_43 : decode cX6_takeLetters 43 = .ok (.bipush 8, 2) := by decide +kernel
theorem dX6_takeLetters_45 : decode cX6_takeLetters 45 = .ok (.if_icmp .le 8, 3) := by decide +kernel
theorem dX6_takeLetters_48 : decode cX6_takeLetters 48 = .ok (.bipush 33, 2) := by decide +kernel
theorem dX6_takeLetters_50 : decode cX6_takeLetters 50 = .ok (.goto 5, 3) := by decide +kernel
theorem dX6_takeLetters_53 : decode cX6_takeLetters 53 = .ok (.bipush 21, 2) := by decide +kernel
theorem dX6_takeLetters_55 : decode cX6_takeLetters 55 = .ok (.istore 7, 2) := by decide +kernel
theorem dX6_takeLetters_57 : decode cX6_takeLetters 57 = .ok (.iconst 0, 1) := by decide +kernel
theorem dX6_takeLetters_58 : decode cX6_takeLetters 58 = .ok (.istore 8, 2) := by decide +kernel
theorem dX6_takeLetters_60 : decode cX6_takeLetters 60 = .ok (.iload 8, 2) := by decide +kernel
theorem dX6_takeLetters_62 : decode cX6_takeLetters 62 = .ok (.aload_n 0, 1) := by decide +kernel
theorem dX6_takeLetters_63 : decode cX6_takeLetters 63 = .ok (.getfield 9, 3) := by decide +kernel
theorem dX6_takeLetters_66 : decode cX6_takeLetters 66 = .ok (.arraylength, 1) := by decide +kernel
theorem dX6_takeLetters_67 : decode cX6_takeLetters 67 = .ok (.if_icmp .ge 33, 3) := by decide +kernel
theorem dX6_takeLetters_70 : decode cX6_takeLetters 70 = .ok (.iload 7, 2) := by decide +kernel
theorem dX6_takeLetters_72 : decode cX6_takeLetters 72 = .ok (.bipush 21, 2) := by decide +kernel
theorem dX6_takeLetters_74 : decode cX6_takeLetters 74 = .ok (.if_icmp .ne 26, 3) := by decide +kernel
theorem dX6_takeLetters_77 : decode cX6_takeLetters 77 = .ok (.aload_n 0, 1) := by decide +kernel
theorem dX6_takeLetters_78 : decode cX6_takeLetters 78 = .ok (.getfield 9, 3) := by decide +kernel
theorem dX6_takeLetters_81 : decode cX6_takeLetters 81 = .ok (.iload 8, 2) := by decide +kernel
theorem dX6_takeLetters_83 : decode cX6_takeLetters 83 = .ok (.laload, 1) := by decide +kernel
theorem dX6_takeLetters_84 : decode cX6_takeLetters 84 = .ok (.lload 4, 2) := by decide +kernel
theorem dX6_takeLetters_86 : decode cX6_takeLetters 86 = .ok (.lcmp, 1) := by decide +kernel
theorem dX6_takeLetters_87 : decode cX6_takeLetters 87 = .ok (.ifCond .ne 7, 3) := by decide +kernel
theorem dX6_takeLetters_90 : decode cX6_takeLetters 90 = .ok (.iload 8, 2) := by decide +kernel
theorem dX6_takeLetters_92 : decode cX6_takeLetters 92 = .ok (.istore 7, 2) := by decide +kernel
theorem dX6_takeLetters_94 : decode cX6_takeLetters 94 = .ok (.iinc 8 1, 3) := by decide +kernel
theorem dX6_takeLetters_97 : decode cX6_takeLetters 97 = .ok (.goto (-37), 3) := by decide +kernel
theorem dX6_takeLetters_100 : decode cX6_takeLetters 100 = .ok (.aload_n 0, 1) := by decide +kernel
theorem dX6_takeLetters_101 : decode cX6_takeLetters 101 = .ok (.iload 7, 2) := by decide +kernel
theorem dX6_takeLetters_103 : decode cX6_takeLetters 103 = .ok (.iload_n 2, 1) := by decide +kernel
theorem dX6_takeLetters_104 : decode cX6_takeLetters 104 = .ok (.lload 4, 2) := by decide +kernel
theorem dX6_takeLetters_106 : decode cX6_takeLetters 106 = .ok (.invokevirtual 73, 3) := by decide +kernel
theorem dX6_takeLetters_109 : decode cX6_takeLetters 109 = .ok (.iload 6, 2) := by decide +kernel
theorem dX6_takeLetters_111 : decode cX6_takeLetters 111 = .ok (.ireturn, 1) := by decide +kernel
theorem dX6_takeDigits_0 : decode cX6_takeDigits 0 = .ok (.iconst 0, 1) := by decide +kernel
theorem dX6_takeDigits_1 : decode cX6_takeDigits 1 = .ok (.istore 4, 2) := by decide +kernel
theorem dX6_takeDigits_3 : decode cX6_takeDigits 3 = .ok (.iload_n 2, 1) := by decide +kernel
theorem dX6_takeDigits_4 : decode cX6_takeDigits 4 = .ok (.istore 5, 2) := by decide +kernel
theorem dX6_takeDigits_6 : decode cX6_takeDigits 6 = .ok (.iload 5, 2) := by decide +kernel
theorem dX6_takeDigits_8 : decode cX6_takeDigits 8 = .ok (.iload_n 3, 1) := by decide +kernel
theorem dX6_takeDigits_9 : decode cX6_takeDigits 9 = .ok (.if_icmp .ge 34, 3) := by decide +kernel
theorem dX6_takeDigits_12 : decode cX6_takeDigits 12 = .ok (.aload_n 1, 1) := by decide +kernel
theorem dX6_takeDigits_13 : decode cX6_takeDigits 13 = .ok (.iload 5, 2) := by decide +kernel
theorem dX6_takeDigits_15 : decode cX6_takeDigits 15 = .ok (.baload, 1) := by decide +kernel
theorem dX6_takeDigits_16 : decode cX6_takeDigits 16 = .ok (.invokestatic 64, 3) := by decide +kernel
theorem dX6_takeDigits_19 : decode cX6_takeDigits 19 = .ok (.ifCond .eq 24, 3) := by decide +kernel
theorem dX6_takeDigits_22 : decode cX6_takeDigits 22 = .ok (.iload 4, 2) := by decide +kernel
theorem dX6_takeDigits_24 : decode cX6_takeDigits 24 = .ok (.bipush 10, 2) := by decide +kernel
theorem dX6_takeDigits_26 : decode cX6_takeDigits 26 = .ok (.imul, 1) := by decide +kernel
theorem dX6_takeDigits_27 : decode cX6_takeDigits 27 = .ok (.aload_n 1, 1) := by decide +kernel
theorem dX6_takeDigits_28 : decode cX6_takeDigits 28 = .ok (.iload 5, 2) := by decide +kernel
theorem dX6_takeDigits_30 : decode cX6_takeDigits 30 = .ok (.baload, 1) := by decide +kernel
theorem dX6_takeDigits_31 : decode cX6_takeDigits 31 = .ok (.bipush 48, 2) := by decide +kernel
theorem dX6_takeDigits_33 : decode cX6_takeDigits 33 = .ok (.isub, 1) := by decide +kernel
theorem dX6_takeDigits_34 : decode cX6_takeDigits 34 = .ok (.iadd, 1) := by decide +kernel
theorem dX6_takeDigits_35 : decode cX6_takeDigits 35 = .ok (.istore 4, 2) := by decide +kernel
theorem dX6_takeDigits_37 : decode cX6_takeDigits 37 = .ok (.iinc 5 1, 3) := by decide +kernel
theorem dX6_takeDigits_40 : decode cX6_takeDigits 40 = .ok (.goto (-34), 3) := by decide +kernel
theorem dX6_takeDigits_43 : decode cX6_takeDigits 43 = .ok (.aload_n 0, 1) := by decide +kernel
theorem dX6_takeDigits_44 : decode cX6_takeDigits 44 = .ok (.iload 5, 2) := by decide +kernel
theorem dX6_takeDigits_46 : decode cX6_takeDigits 46 = .ok (.iload_n 2, 1) := by decide +kernel
theorem dX6_takeDigits_47 : decode cX6_takeDigits 47 = .ok (.isub, 1) := by decide +kernel
theorem dX6_takeDigits_48 : decode cX6_takeDigits 48 = .ok (.iconst 4, 1) := by decide +kernel
theorem dX6_takeDigits_49 : decode cX6_takeDigits 49 = .ok (.if_icmp .le 8, 3) := by decide +kernel
theorem dX6_takeDigits_52 : decode cX6_takeDigits 52 = .ok (.bipush 33, 2) := by decide +kernel
theorem dX6_takeDigits_54 : decode cX6_takeDigits 54 = .ok (.goto 5, 3) := by decide +kernel
theorem dX6_takeDigits_57 : decode cX6_takeDigits 57 = .ok (.bipush 22, 2) := by decide +kernel
theorem dX6_takeDigits_59 : decode cX6_takeDigits 59 = .ok (.iload_n 2, 1) := by decide +kernel
theorem dX6_takeDigits_60 : decode cX6_takeDigits 60 = .ok (.iload 4, 2) := by decide +kernel
theorem dX6_takeDigits_62 : decode cX6_takeDigits 62 = .ok (.i2l, 1) := by decide +kernel
theorem dX6_takeDigits_63 : decode cX6_takeDigits 63 = .ok (.invokevirtual 73, 3) := by decide +kernel
theorem dX6_takeDigits_66 : decode cX6_takeDigits 66 = .ok (.iload 5, 2) := by decide +kernel
theorem dX6_takeDigits_68 : decode cX6_takeDigits 68 = .ok (.ireturn, 1) := by decide +kernel
theorem dX6_takeSign_0 : decode cX6_takeSign 0 = .ok (.iload_n 1, 1) := by decide +kernel
theorem dX6_takeSign_1 : decode cX6_takeSign 1 = .ok (.ifCond .ge 7, 3) := by decide +kernel
theorem dX6_takeSign_4 : decode cX6_takeSign 4 = .ok (.iconst (-1), 1) := by decide +kernel
theorem dX6_takeSign_5 : decode cX6_takeSign 5 = .ok (.goto 10, 3) := by decide +kernel
theorem dX6_takeSign_8 : decode cX6_takeSign 8 = .ok (.ldc 77, 2) := by decide +kernel
theorem dX6_takeSign_10 : decode cX6_takeSign 10 = .ok (.iload_n 1, 1) := by decide +kernel
theorem dX6_takeSign_11 : decode cX6_takeSign 11 = .ok (.i2c, 1) := by decide +kernel
theorem dX6_takeSign_12 : decode cX6_takeSign 12 = .ok (.invokevirtual 79, 3) := by decide +kernel
theorem dX6_takeSign_15 : decode cX6_takeSign 15 = .ok (.istore_n 3, 1) := by decide +kernel
theorem dX6_takeSign_16 : decode cX6_takeSign 16 = .ok (.aload_n 0, 1) := by decide +kernel
theorem dX6_takeSign_17 : decode cX6_takeSign 17 = .ok (.iload_n 3, 1) := by decide +kernel
theorem dX6_takeSign_18 : decode cX6_takeSign 18 = .ok (.ifCond .ge 8, 3) := by decide +kernel
theorem dX6_takeSign_21 : decode cX6_takeSign 21 = .ok (.bipush 33, 2) := by decide +kernel
theorem dX6_takeSign_23 : decode cX6_takeSign 23 = .ok (.goto 7, 3) := by decide +kernel
theorem dX6_takeSign_26 : decode cX6_takeSign 26 = .ok (.bipush 23, 2) := by decide +kernel
theorem dX6_takeSign_28 : decode cX6_takeSign 28 = .ok (.iload_n 3, 1) := by decide +kernel
theorem dX6_takeSign_29 : decode cX6_takeSign 29 = .ok (.iadd, 1) := by decide +kernel
theorem dX6_takeSign_30 : decode cX6_takeSign 30 = .ok (.iload_n 2, 1) := by decide +kernel
theorem dX6_takeSign_31 : decode cX6_takeSign 31 = .ok (.lconst 0, 1) := by decide +kernel
theorem dX6_takeSign_32 : decode cX6_takeSign 32 = .ok (.invokevirtual 73, 3) := by decide +kernel
theorem dX6_takeSign_35 : decode cX6_takeSign 35 = .ok (.iload_n 2, 1) := by decide +kernel
theorem dX6_takeSign_36 : decode cX6_takeSign 36 = .ok (.iconst 1, 1) := by decide +kernel
theorem dX6_takeSign_37 : decode cX6_takeSign 37 = .ok (.iadd, 1) := by decide +kernel
theorem dX6_takeSign_38 : decode cX6_takeSign 38 = .ok (.ireturn, 1) := by decide +kernel
theorem dX7_begin_0 : decode cX7_begin 0 = .ok (.aload_n 0, 1) := by decide +kernel
theorem dX7_begin_1 : decode cX7_begin 1 = .ok (.aload_n 1, 1) := by decide +kernel
theorem dX7_begin_2 : decode cX7_begin 2 = .ok (.putfield 29, 3) := by decide +kernel
theorem dX7_begin_5 : decode cX7_begin 5 = .ok (.aload_n 0, 1) := by decide +kernel
theorem dX7_begin_6 : decode cX7_begin 6 = .ok (.getfield 11, 3) := by decide +kernel
theorem dX7_begin_9 : decode cX7_begin 9 = .ok (.iconst 0, 1) := by decide +kernel
theorem dX7_begin_10 : decode cX7_begin 10 = .ok (.invokestatic 33, 3) := by decide +kernel
theorem dX7_begin_13 : decode cX7_begin 13 = .ok (.return_, 1) := by decide +kernel
theorem dX7_rowAt_0 : decode cX7_rowAt 0 = .ok (.aload_n 0, 1) := by decide +kernel
theorem dX7_rowAt_1 : decode cX7_rowAt 1 = .ok (.getfield 29, 3) := by decide +kernel
theorem dX7_rowAt_4 : decode cX7_rowAt 4 = .ok (.iload_n 1, 1) := by decide +kernel
theorem dX7_rowAt_5 : decode cX7_rowAt 5 = .ok (.invokevirtual 39, 3) := by decide +kernel
theorem dX7_rowAt_8 : decode cX7_rowAt 8 = .ok (.ifCond .eq 7, 3) := by decide +kernel
theorem dX7_rowAt_11 : decode cX7_rowAt 11 = .ok (.iload_n 2, 1) := by decide +kernel
theorem dX7_rowAt_12 : decode cX7_rowAt 12 = .ok (.ifCond .ge 5, 3) := by decide +kernel
theorem dX7_rowAt_15 : decode cX7_rowAt 15 = .ok (.iconst 0, 1) := by decide +kernel
theorem dX7_rowAt_16 : decode cX7_rowAt 16 = .ok (.ireturn, 1) := by decide +kernel
theorem dX7_rowAt_17 : decode cX7_rowAt 17 = .ok (.iload_n 1, 1) := by decide +kernel
theorem dX7_rowAt_18 : decode cX7_rowAt 18 = .ok (.sipush 512, 3) := by decide +kernel
theorem dX7_rowAt_21 : decode cX7_rowAt 21 = .ok (.imul, 1) := by decide +kernel
theorem dX7_rowAt_22 : decode cX7_rowAt 22 = .ok (.iload_n 2, 1) := by decide +kernel
theorem dX7_rowAt_23 : decode cX7_rowAt 23 = .ok (.sipush 512, 3) := by decide +kernel
theorem dX7_rowAt_26 : decode cX7_rowAt 26 = .ok (.irem, 1) := by decide +kernel
theorem dX7_rowAt_27 : decode cX7_rowAt 27 = .ok (.iadd, 1) := by decide +kernel
theorem dX7_rowAt_28 : decode cX7_rowAt 28 = .ok (.istore_n 3, 1) := by decide +kernel
theorem dX7_rowAt_29 : decode cX7_rowAt 29 = .ok (.aload_n 0, 1) := by decide +kernel
theorem dX7_rowAt_30 : decode cX7_rowAt 30 = .ok (.getfield 11, 3) := by decide +kernel
theorem dX7_rowAt_33 : decode cX7_rowAt 33 = .ok (.iload_n 3, 1) := by decide +kernel
theorem dX7_rowAt_34 : decode cX7_rowAt 34 = .ok (.iaload, 1) := by decide +kernel
theorem dX7_rowAt_35 : decode cX7_rowAt 35 = .ok (.iload_n 2, 1) := by decide +kernel
theorem dX7_rowAt_36 : decode cX7_rowAt 36 = .ok (.iconst 1, 1) := by decide +kernel
theorem dX7_rowAt_37 : decode cX7_rowAt 37 = .ok (.iadd, 1) := by decide +kernel
theorem dX7_rowAt_38 : decode cX7_rowAt 38 = .ok (.if_icmp .ne 10, 3) := by decide +kernel
theorem dX7_rowAt_41 : decode cX7_rowAt 41 = .ok (.aload_n 0, 1) := by decide +kernel
theorem dX7_rowAt_42 : decode cX7_rowAt 42 = .ok (.getfield 15, 3) := by decide +kernel
theorem dX7_rowAt_45 : decode cX7_rowAt 45 = .ok (.iload_n 3, 1) := by decide +kernel
theorem dX7_rowAt_46 : decode cX7_rowAt 46 = .ok (.iaload, 1) := by decide +kernel
theorem dX7_rowAt_47 : decode cX7_rowAt 47 = .ok (.ireturn, 1) := by decide +kernel
theorem dX7_rowAt_48 : decode cX7_rowAt 48 = .ok (.aload_n 0, 1) := by decide +kernel
theorem dX7_rowAt_49 : decode cX7_rowAt 49 = .ok (.getfield 29, 3) := by decide +kernel
theorem dX7_rowAt_52 : decode cX7_rowAt 52 = .ok (.getfield 45, 3) := by decide +kernel
theorem dX7_rowAt_55 : decode cX7_rowAt 55 = .ok (.getfield 49, 3) := by decide +kernel
theorem dX7_rowAt_58 : decode cX7_rowAt 58 = .ok (.astore 4, 2) := by decide +kernel
theorem dX7_rowAt_60 : decode cX7_rowAt 60 = .ok (.aload 4, 2) := by decide +kernel
theorem dX7_rowAt_62 : decode cX7_rowAt 62 = .ok (.bipush 7, 2) := by decide +kernel
theorem dX7_rowAt_64 : decode cX7_rowAt 64 = .ok (.iload_n 1, 1) := by decide +kernel
theorem dX7_rowAt_65 : decode cX7_rowAt 65 = .ok (.iastore, 1) := by decide +kernel
theorem dX7_rowAt_66 : decode cX7_rowAt 66 = .ok (.aload 4, 2) := by decide +kernel
theorem dX7_rowAt_68 : decode cX7_rowAt 68 = .ok (.iconst 2, 1) := by decide +kernel
theorem dX7_rowAt_69 : decode cX7_rowAt 69 = .ok (.iload_n 2, 1) := by decide +kernel
theorem dX7_rowAt_70 : decode cX7_rowAt 70 = .ok (.iastore, 1) := by decide +kernel
theorem dX7_rowAt_71 : decode cX7_rowAt 71 = .ok (.aload 4, 2) := by decide +kernel
theorem dX7_rowAt_73 : decode cX7_rowAt 73 = .ok (.iconst 0, 1) := by decide +kernel
theorem dX7_rowAt_74 : decode cX7_rowAt 74 = .ok (.iload_n 2, 1) := by decide +kernel
theorem dX7_rowAt_75 : decode cX7_rowAt 75 = .ok (.iconst 4, 1) := by decide +kernel
theorem dX7_rowAt_76 : decode cX7_rowAt 76 = .ok (.irem, 1) := by decide +kernel
theorem dX7_rowAt_77 : decode cX7_rowAt 77 = .ok (.iastore, 1) := by decide +kernel
theorem dX7_rowAt_78 : decode cX7_rowAt 78 = .ok (.aload 4, 2) := by decide +kernel
theorem dX7_rowAt_80 : decode cX7_rowAt 80 = .ok (.bipush 8, 2) := by decide +kernel
theorem dX7_rowAt_82 : decode cX7_rowAt 82 = .ok (.aload_n 0, 1) := by decide +kernel
theorem dX7_rowAt_83 : decode cX7_rowAt 83 = .ok (.getfield 29, 3) := by decide +kernel
theorem dX7_rowAt_86 : decode cX7_rowAt 86 = .ok (.getfield 54, 3) := by decide +kernel
theorem dX7_rowAt_89 : decode cX7_rowAt 89 = .ok (.iload_n 1, 1) := by decide +kernel
theorem dX7_rowAt_90 : decode cX7_rowAt 90 = .ok (.iaload, 1) := by decide +kernel
theorem dX7_rowAt_91 : decode cX7_rowAt 91 = .ok (.iastore, 1) := by decide +kernel
theorem dX7_rowAt_92 : decode cX7_rowAt 92 = .ok (.iconst 0, 1) := by decide +kernel
theorem dX7_rowAt_93 : decode cX7_rowAt 93 = .ok (.istore 5, 2) := by decide +kernel
theorem dX7_rowAt_95 : decode cX7_rowAt 95 = .ok (.iconst 0, 1) := by decide +kernel
theorem dX7_rowAt_96 : decode cX7_rowAt 96 = .ok (.istore 6, 2) := by decide +kernel
theorem dX7_rowAt_98 : decode cX7_rowAt 98 = .ok (.iload 6, 2) := by decide +kernel
theorem dX7_rowAt_100 : decode cX7_rowAt 100 = .ok (.aload_n 0, 1) := by decide +kernel
theorem dX7_rowAt_101 : decode cX7_rowAt 101 = .ok (.getfield 29, 3) := by decide +kernel
theorem dX7_rowAt_104 : decode cX7_rowAt 104 = .ok (.getfield 54, 3) := by decide +kernel
theorem dX7_rowAt_107 : decode cX7_rowAt 107 = .ok (.iload_n 1, 1) := by decide +kernel
theorem dX7_rowAt_108 : decode cX7_rowAt 108 = .ok (.iaload, 1) := by decide +kernel
theorem dX7_rowAt_109 : decode cX7_rowAt 109 = .ok (.if_icmp .ge 40, 3) := by decide +kernel
theorem dX7_rowAt_112 : decode cX7_rowAt 112 = .ok (.aload 4, 2) := by decide +kernel
theorem dX7_rowAt_114 : decode cX7_rowAt 114 = .ok (.iconst 1, 1) := by decide +kernel
theorem dX7_rowAt_115 : decode cX7_rowAt 115 = .ok (.iload 6, 2) := by decide +kernel
theorem dX7_rowAt_117 : decode cX7_rowAt 117 = .ok (.iastore, 1) := by decide +kernel
theorem dX7_rowAt_118 : decode cX7_rowAt 118 = .ok (.iload 5, 2) := by decide +kernel
theorem dX7_rowAt_120 : decode cX7_rowAt 120 = .ok (.aload_n 0, 1) := by decide +kernel
theorem dX7_rowAt_121 : decode cX7_rowAt 121 = .ok (.getfield 29, 3) := by decide +kernel
theorem dX7_rowAt_124 : decode cX7_rowAt 124 = .ok (.getfield 45, 3) := by decide +kernel
theorem dX7_rowAt_127 : decode cX7_rowAt 127 = .ok (.invokevirtual 57, 3) := by decide +kernel
theorem dX7_rowAt_130 : decode cX7_rowAt 130 = .ok (.bipush 9, 2) := by decide +kernel
theorem dX7_rowAt_132 : decode cX7_rowAt 132 = .ok (.invokestatic 61, 3) := by decide +kernel
theorem dX7_rowAt_135 : decode cX7_rowAt 135 = .ok (.iconst 4, 1) := by decide +kernel
theorem dX7_rowAt_136 : decode cX7_rowAt 136 = .ok (.iload 6, 2) := by decide +kernel
theorem dX7_rowAt_138 : decode cX7_rowAt 138 = .ok (.imul, 1) := by decide +kernel
theorem dX7_rowAt_139 : decode cX7_rowAt 139 = .ok (.ishl, 1) := by decide +kernel
theorem dX7_rowAt_140 : decode cX7_rowAt 140 = .ok (.ior, 1) := by decide +kernel
theorem dX7_rowAt_141 : decode cX7_rowAt 141 = .ok (.istore 5, 2) := by decide +kernel
theorem dX7_rowAt_143 : decode cX7_rowAt 143 = .ok (.iinc 6 1, 3) := by decide +kernel
theorem dX7_rowAt_146 : decode cX7_rowAt 146 = .ok (.goto (-48), 3) := by decide +kernel
theorem dX7_rowAt_149 : decode cX7_rowAt 149 = .ok (.aload_n 0, 1) := by decide +kernel
theorem dX7_rowAt_150 : decode cX7_rowAt 150 = .ok (.getfield 11, 3) := by decide +kernel
theorem dX7_rowAt_153 : decode cX7_rowAt 153 = .ok (.iload_n 3, 1) := by decide +kernel
theorem dX7_rowAt_154 : decode cX7_rowAt 154 = .ok (.iload_n 2, 1) := by decide +kernel
theorem dX7_rowAt_155 : decode cX7_rowAt 155 = .ok (.iconst 1, 1) := by decide +kernel
theorem dX7_rowAt_156 : decode cX7_rowAt 156 = .ok (.iadd, 1) := by decide +kernel
theorem dX7_rowAt_157 : decode cX7_rowAt 157 = .ok (.iastore, 1) := by decide +kernel
theorem dX7_rowAt_158 : decode cX7_rowAt 158 = .ok (.aload_n 0, 1) := by decide +kernel
theorem dX7_rowAt_159 : decode cX7_rowAt 159 = .ok (.getfield 15, 3) := by decide +kernel
theorem dX7_rowAt_162 : decode cX7_rowAt 162 = .ok (.iload_n 3, 1) := by decide +kernel
theorem dX7_rowAt_163 : decode cX7_rowAt 163 = .ok (.iload 5, 2) := by decide +kernel
theorem dX7_rowAt_165 : decode cX7_rowAt 165 = .ok (.iastore, 1) := by decide +kernel
theorem dX7_rowAt_166 : decode cX7_rowAt 166 = .ok (.iload 5, 2) := by decide +kernel
theorem dX7_rowAt_168 : decode cX7_rowAt 168 = .ok (.ireturn, 1) := by decide +kernel
theorem dX7_within_0 : decode cX7_within 0 = .ok (.iload_n 0, 1) := by decide +kernel
theorem dX7_within_1 : decode cX7_within 1 = .ok (.ifCond .ge 7, 3) := by decide +kernel
theorem dX7_within_4 : decode cX7_within 4 = .ok (.iconst 0, 1) := by decide +kernel
theorem dX7_within_5 : decode cX7_within 5 = .ok (.goto 13, 3) := by decide +kernel
theorem dX7_within_8 : decode cX7_within 8 = .ok (.iload_n 0, 1) := by decide +kernel
theorem dX7_within_9 : decode cX7_within 9 = .ok (.iload_n 1, 1) := by decide +kernel
theorem dX7_within_10 : decode cX7_within 10 = .ok (.if_icmp .le 7, 3) := by decide +kernel
theorem dX7_within_13 : decode cX7_within 13 = .ok (.iload_n 1, 1) := by decide +kernel
theorem dX7_within_14 : decode cX7_within 14 = .ok (.goto 4, 3) := by decide +kernel
theorem dX7_within_17 : decode cX7_within 17 = .ok (.iload_n 0, 1) := by decide +kernel
theorem dX7_within_18 : decode cX7_within 18 = .ok (.ireturn, 1) := by decide +kernel
theorem dX7_threadOf_0 : decode cX7_threadOf 0 = .ok (.iload_n 0, 1) := by decide +kernel
theorem dX7_threadOf_1 : decode cX7_threadOf 1 = .ok (.iconst 4, 1) := by decide +kernel
theorem dX7_threadOf_2 : decode cX7_threadOf 2 = .ok (.iload_n 1, 1) := by decide +kernel
theorem dX7_threadOf_3 : decode cX7_threadOf 3 = .ok (.imul, 1) := by decide +kernel
theorem dX7_threadOf_4 : decode cX7_threadOf 4 = .ok (.iushr, 1) := by decide +kernel
theorem dX7_threadOf_5 : decode cX7_threadOf 5 = .ok (.bipush 15, 2) := by decide +kernel
theorem dX7_threadOf_7 : decode cX7_threadOf 7 = .ok (.iand, 1) := by decide +kernel
theorem dX7_threadOf_8 : decode cX7_threadOf 8 = .ok (.ireturn, 1) := by decide +kernel
theorem dX7_bitsOf_0 : decode cX7_bitsOf 0 = .ok (.iconst 0, 1) := by decide +kernel
theorem dX7_bitsOf_1 : decode cX7_bitsOf 1 = .ok (.istore_n 2, 1) := by decide +kernel
theorem dX7_bitsOf_2 : decode cX7_bitsOf 2 = .ok (.iconst 0, 1) := by decide +kernel
theorem dX7_bitsOf_3 : decode cX7_bitsOf 3 = .ok (.istore_n 3, 1) := by decide +kernel
theorem dX7_bitsOf_4 : decode cX7_bitsOf 4 = .ok (.iload_n 3, 1) := by decide +kernel
theorem dX7_bitsOf_5 : decode cX7_bitsOf 5 = .ok (.iload_n 1, 1) := by decide +kernel
theorem dX7_bitsOf_6 : decode cX7_bitsOf 6 = .ok (.if_icmp .ge 23, 3) := by decide +kernel
theorem dX7_bitsOf_9 : decode cX7_bitsOf 9 = .ok (.iload_n 0, 1) := by decide +kernel
theorem dX7_bitsOf_10 : decode cX7_bitsOf 10 = .ok (.iload_n 3, 1) := by decide +kernel
theorem dX7_bitsOf_11 : decode cX7_bitsOf 11 = .ok (.invokestatic 65, 3) := by decide +kernel
theorem dX7_bitsOf_14 : decode cX7_bitsOf 14 = .ok (.ifCond .le 9, 3) := by decide +kernel
theorem dX7_bitsOf_17 : decode cX7_bitsOf 17 = .ok (.iload_n 2, 1) := by decide +kernel
theorem dX7_bitsOf_18 : decode cX7_bitsOf 18 = .ok (.iconst 1, 1) := by decide +kernel
theorem dX7_bitsOf_19 : decode cX7_bitsOf 19 = .ok (.iload_n 3, 1) := by decide +kernel
theorem dX7_bitsOf_20 : decode cX7_bitsOf 20 = .ok (.ishl, 1) := by decide +kernel
theorem dX7_bitsOf_21 : decode cX7_bitsOf 21 = .ok (.ior, 1) := by decide +kernel
theorem dX7_bitsOf_22 : decode cX7_bitsOf 22 = .ok (.istore_n 2, 1) := by decide +kernel
theorem dX7_bitsOf_23 : decode cX7_bitsOf 23 = .ok (.iinc 3 1, 3) := by decide +kernel
theorem dX7_bitsOf_26 : decode cX7_bitsOf 26 = .ok (.goto (-22), 3) := by decide +kernel
theorem dX7_bitsOf_29 : decode cX7_bitsOf 29 = .ok (.iload_n 2, 1) := by decide +kernel
theorem dX7_bitsOf_30 : decode cX7_bitsOf 30 = .ok (.ireturn, 1) := by decide +kernel
theorem dX7_narrowed_0 : decode cX7_narrowed 0 = .ok (.iload_n 1, 1) := by decide +kernel
theorem dX7_narrowed_1 : decode cX7_narrowed 1 = .ok (.bipush 8, 2) := by decide +kernel
theorem dX7_narrowed_3 : decode cX7_narrowed 3 = .ok (.if_icmp .lt 7, 3) := by decide +kernel
theorem dX7_narrowed_6 : decode cX7_narrowed 6 = .ok (.iload_n 0, 1) := by decide +kernel
theorem dX7_narrowed_7 : decode cX7_narrowed 7 = .ok (.goto 12, 3) := by decide +kernel
theorem dX7_narrowed_10 : decode cX7_narrowed 10 = .ok (.iload_n 0, 1) := by decide +kernel
theorem dX7_narrowed_11 : decode cX7_narrowed 11 = .ok (.iconst 1, 1) := by decide +kernel
theorem dX7_narrowed_12 : decode cX7_narrowed 12 = .ok (.iconst 4, 1) := by decide +kernel
theorem dX7_narrowed_13 : decode cX7_narrowed 13 = .ok (.iload_n 1, 1) := by decide +kernel
theorem dX7_narrowed_14 : decode cX7_narrowed 14 = .ok (.imul, 1) := by decide +kernel
theorem dX7_narrowed_15 : decode cX7_narrowed 15 = .ok (.ishl, 1) := by decide +kernel
theorem dX7_narrowed_16 : decode cX7_narrowed 16 = .ok (.iconst 1, 1) := by decide +kernel
theorem dX7_narrowed_17 : decode cX7_narrowed 17 = .ok (.isub, 1) := by decide +kernel
theorem dX7_narrowed_18 : decode cX7_narrowed 18 = .ok (.iand, 1) := by decide +kernel
theorem dX7_narrowed_19 : decode cX7_narrowed 19 = .ok (.ireturn, 1) := by decide +kernel
theorem dX7_weave_0 : decode cX7_weave 0 = .ok (.aload_n 0, 1) := by decide +kernel
theorem dX7_weave_1 : decode cX7_weave 1 = .ok (.iconst 0, 1) := by decide +kernel
theorem dX7_weave_2 : decode cX7_weave 2 = .ok (.putfield 21, 3) := by decide +kernel
theorem dX7_weave_5 : decode cX7_weave 5 = .ok (.aload_n 0, 1) := by decide +kernel
theorem dX7_weave_6 : decode cX7_weave 6 = .ok (.iconst 0, 1) := by decide +kernel
theorem dX7_weave_7 : decode cX7_weave 7 = .ok (.putfield 25, 3) := by decide +kernel
theorem dX7_weave_10 : decode cX7_weave 10 = .ok (.iconst 0, 1) := by decide +kernel
theorem dX7_weave_11 : decode cX7_weave 11 = .ok (.istore 6, 2) := by decide +kernel
theorem dX7_weave_13 : decode cX7_weave 13 = .ok (.iconst 0, 1) := by decide +kernel
theorem dX7_weave_14 : decode cX7_weave 14 = .ok (.istore 7, 2) := by decide +kernel
theorem dX7_weave_16 : decode cX7_weave 16 = .ok (.iload 7, 2) := by decide +kernel
theorem dX7_weave_18 : decode cX7_weave 18 = .ok (.iload 4, 2) := by decide +kernel
theorem dX7_weave_20 : decode cX7_weave 20 = .ok (.if_icmp .ge 121, 3) := by decide +kernel
theorem dX7_weave_23 : decode cX7_weave 23 = .ok (.aload_n 0, 1) := by decide +kernel
theorem dX7_weave_24 : decode cX7_weave 24 = .ok (.iload_n 1, 1) := by decide +kernel
theorem dX7_weave_25 : decode cX7_weave 25 = .ok (.iload_n 2, 1) := by decide +kernel
theorem dX7_weave_26 : decode cX7_weave 26 = .ok (.iload 7, 2) := by decide +kernel
theorem dX7_weave_28 : decode cX7_weave 28 = .ok (.iadd, 1) := by decide +kernel
theorem dX7_weave_29 : decode cX7_weave 29 = .ok (.invokevirtual 68, 3) := by decide +kernel
theorem dX7_weave_32 : decode cX7_weave 32 = .ok (.istore 8, 2) := by decide +kernel
theorem dX7_weave_34 : decode cX7_weave 34 = .ok (.iconst 0, 1) := by decide +kernel
theorem dX7_weave_35 : decode cX7_weave 35 = .ok (.istore 9, 2) := by decide +kernel
theorem dX7_weave_37 : decode cX7_weave 37 = .ok (.iload 9, 2) := by decide +kernel
theorem dX7_weave_39 : decode cX7_weave 39 = .ok (.iload_n 3, 1) := by decide +kernel
theorem dX7_weave_40 : decode cX7_weave 40 = .ok (.if_icmp .ge 95, 3) := by decide +kernel
theorem dX7_weave_43 : decode cX7_weave 43 = .ok (.iload 6, 2) := by decide +kernel
theorem dX7_weave_45 : decode cX7_weave 45 = .ok (.aload_n 0, 1) := by decide +kernel
theorem dX7_weave_46 : decode cX7_weave 46 = .ok (.getfield 18, 3) := by decide +kernel
theorem dX7_weave_49 : decode cX7_weave 49 = .ok (.arraylength, 1) := by decide +kernel
theorem dX7_weave_50 : decode cX7_weave 50 = .ok (.if_icmp .ge 85, 3) := by decide +kernel
theorem dX7_weave_53 : decode cX7_weave 53 = .ok (.iload 8, 2) := by decide +kernel
theorem dX7_weave_55 : decode cX7_weave 55 = .ok (.iload 9, 2) := by decide +kernel
theorem dX7_weave_57 : decode cX7_weave 57 = .ok (.invokestatic 65, 3) := by decide +kernel
theorem dX7_weave_60 : decode cX7_weave 60 = .ok (.istore 10, 2) := by decide +kernel
theorem dX7_weave_62 : decode cX7_weave 62 = .ok (.aload_n 0, 1) := by decide +kernel
theorem dX7_weave_63 : decode cX7_weave 63 = .ok (.aload_n 0, 1) := by decide +kernel
theorem dX7_weave_64 : decode cX7_weave 64 = .ok (.getfield 25, 3) := by decide +kernel
theorem dX7_weave_67 : decode cX7_weave 67 = .ok (.ifCond .ne 15, 3) := by decide +kernel
theorem dX7_weave_70 : decode cX7_weave 70 = .ok (.iload 10, 2) := by decide +kernel
theorem dX7_weave_72 : decode cX7_weave 72 = .ok (.iload 5, 2) := by decide +kernel
theorem dX7_weave_74 : decode cX7_weave 74 = .ok (.aload_n 0, 1) := by decide +kernel
theorem dX7_weave_75 : decode cX7_weave 75 = .ok (.getfield 21, 3) := by decide +kernel
theorem dX7_weave_78 : decode cX7_weave 78 = .ok (.isub, 1) := by decide +kernel
theorem dX7_weave_79 : decode cX7_weave 79 = .ok (.if_icmp .le 7, 3) := by decide +kernel
theorem dX7_weave_82 : decode cX7_weave 82 = .ok (.iconst 1, 1) := by decide +kernel
theorem dX7_weave_83 : decode cX7_weave 83 = .ok (.goto 4, 3) := by decide +kernel
theorem dX7_weave_86 : decode cX7_weave 86 = .ok (.iconst 0, 1) := by decide +kernel
theorem dX7_weave_87 : decode cX7_weave 87 = .ok (.putfield 25, 3) := by decide +kernel
theorem dX7_weave_90 : decode cX7_weave 90 = .ok (.aload_n 0, 1) := by decide +kernel
theorem dX7_weave_91 : decode cX7_weave 91 = .ok (.getfield 18, 3) := by decide +kernel
theorem dX7_weave_94 : decode cX7_weave 94 = .ok (.iload 6, 2) := by decide +kernel
theorem dX7_weave_96 : decode cX7_weave 96 = .ok (.aload_n 0, 1) := by decide +kernel
theorem dX7_weave_97 : decode cX7_weave 97 = .ok (.getfield 25, 3) := by decide +kernel
theorem dX7_weave_100 : decode cX7_weave 100 = .ok (.ifCond .eq 7, 3) := by decide +kernel
theorem dX7_weave_103 : decode cX7_weave 103 = .ok (.iconst 0, 1) := by decide +kernel
theorem dX7_weave_104 : decode cX7_weave 104 = .ok (.goto 5, 3) := by decide +kernel
theorem dX7_weave_107 : decode cX7_weave 107 = .ok (.iload 10, 2) := by decide +kernel
theorem dX7_weave_109 : decode cX7_weave 109 = .ok (.iastore, 1) := by decide +kernel
theorem dX7_weave_110 : decode cX7_weave 110 = .ok (.aload_n 0, 1) := by decide +kernel
theorem dX7_weave_111 : decode cX7_weave 111 = .ok (.dup, 1) := by decide +kernel
theorem dX7_weave_112 : decode cX7_weave 112 = .ok (.getfield 21, 3) := by decide +kernel
theorem dX7_weave_115 : decode cX7_weave 115 = .ok (.aload_n 0, 1) := by decide +kernel
theorem dX7_weave_116 : decode cX7_weave 116 = .ok (.getfield 18, 3) := by decide +kernel
theorem dX7_weave_119 : decode cX7_weave 119 = .ok (.iload 6, 2) := by decide +kernel
theorem dX7_weave_121 : decode cX7_weave 121 = .ok (.iaload, 1) := by decide +kernel
theorem dX7_weave_122 : decode cX7_weave 122 = .ok (.iadd, 1) := by decide +kernel
theorem dX7_weave_123 : decode cX7_weave 123 = .ok (.putfield 21, 3) := by decide +kernel
theorem dX7_weave_126 : decode cX7_weave 126 = .ok (.iinc 6 1, 3) := by decide +kernel
theorem dX7_weave_129 : decode cX7_weave 129 = .ok (.iinc 9 1, 3) := by decide +kernel
theorem dX7_weave_132 : decode cX7_weave 132 = .ok (.goto (-95), 3) := by decide +kernel
theorem dX7_weave_135 : decode cX7_weave 135 = .ok (.iinc 7 1, 3) := by decide +kernel
theorem dX7_weave_138 : decode cX7_weave 138 = .ok (.goto (-122), 3) := by decide +kernel
theorem dX7_weave_141 : decode cX7_weave 141 = .ok (.return_, 1) := by decide +kernel
theorem dX7_emptyThreads_0 : decode cX7_emptyThreads 0 = .ok (.iconst 0, 1) := by decide +kernel
theorem dX7_emptyThreads_1 : decode cX7_emptyThreads 1 = .ok (.istore_n 3, 1) := by decide +kernel
theorem dX7_emptyThreads_2 : decode cX7_emptyThreads 2 = .ok (.iconst 0, 1) := by decide +kernel
theorem dX7_emptyThreads_3 : decode cX7_emptyThreads 3 = .ok (.istore 4, 2) := by decide +kernel
theorem dX7_emptyThreads_5 : decode cX7_emptyThreads 5 = .ok (.iload 4, 2) := by decide +kernel
theorem dX7_emptyThreads_7 : decode cX7_emptyThreads 7 = .ok (.iload_n 1, 1) := by decide +kernel
theorem dX7_emptyThreads_8 : decode cX7_emptyThreads 8 = .ok (.iload_n 2, 1) := by decide +kernel
theorem dX7_emptyThreads_9 : decode cX7_emptyThreads 9 = .ok (.imul, 1) := by decide +kernel
theorem dX7_emptyThreads_10 : decode cX7_emptyThreads 10 = .ok (.if_icmp .ge 32, 3) := by decide +kernel
theorem dX7_emptyThreads_13 : decode cX7_emptyThreads 13 = .ok (.iload 4, 2) := by decide +kernel
theorem dX7_emptyThreads_15 : decode cX7_emptyThreads 15 = .ok (.aload_n 0, 1) := by decide +kernel
theorem dX7_emptyThreads_16 : decode cX7_emptyThreads 16 = .ok (.getfield 18, 3) := by decide +kernel
theorem dX7_emptyThreads_19 : decode cX7_emptyThreads 19 = .ok (.arraylength, 1) := by decide +kernel
theorem dX7_emptyThreads_20 : decode cX7_emptyThreads 20 = .ok (.if_icmp .ge 22, 3) := by decide +kernel
theorem dX7_emptyThreads_23 : decode cX7_emptyThreads 23 = .ok (.aload_n 0, 1) := by decide +kernel
theorem dX7_emptyThreads_24 : decode cX7_emptyThreads 24 = .ok (.getfield 18, 3) := by decide +kernel
theorem dX7_emptyThreads_27 : decode cX7_emptyThreads 27 = .ok (.iload 4, 2) := by decide +kernel
theorem dX7_emptyThreads_29 : decode cX7_emptyThreads 29 = .ok (.iaload, 1) := by decide +kernel
theorem dX7_emptyThreads_30 : decode cX7_emptyThreads 30 = .ok (.ifCond .ne 6, 3) := by decide +kernel
theorem dX7_emptyThreads_33 : decode cX7_emptyThreads 33 = .ok (.iinc 3 1, 3) := by decide +kernel
theorem dX7_emptyThreads_36 : decode cX7_emptyThreads 36 = .ok (.iinc 4 1, 3) := by decide +kernel
theorem dX7_emptyThreads_39 : decode cX7_emptyThreads 39 = .ok (.goto (-34), 3) := by decide +kernel
theorem dX7_emptyThreads_42 : decode cX7_emptyThreads 42 = .ok (.iload_n 3, 1) := by decide +kernel
theorem dX7_emptyThreads_43 : decode cX7_emptyThreads 43 = .ok (.ireturn, 1) := by decide +kernel
theorem dX7_letFall_0 : decode cX7_letFall 0 = .ok (.aload_n 0, 1) := by decide +kernel
theorem dX7_letFall_1 : decode cX7_letFall 1 = .ok (.iload_n 2, 1) := by decide +kernel
theorem dX7_letFall_2 : decode cX7_letFall 2 = .ok (.aload_n 1, 1) := by decide +kernel
theorem dX7_letFall_3 : decode cX7_letFall 3 = .ok (.iload_n 2, 1) := by decide +kernel
theorem dX7_letFall_4 : decode cX7_letFall 4 = .ok (.iconst 1, 1) := by decide +kernel
theorem dX7_letFall_5 : decode cX7_letFall 5 = .ok (.invokevirtual 73, 3) := by decide +kernel
theorem dX7_letFall_8 : decode cX7_letFall 8 = .ok (.iload_n 3, 1) := by decide +kernel
theorem dX7_letFall_9 : decode cX7_letFall 9 = .ok (.iload 4, 2) := by decide +kernel
theorem dX7_letFall_11 : decode cX7_letFall 11 = .ok (.aload_n 1, 1) := by decide +kernel
theorem dX7_letFall_12 : decode cX7_letFall 12 = .ok (.getfield 76, 3) := by decide +kernel
theorem dX7_letFall_15 : decode cX7_letFall 15 = .ok (.invokevirtual 79, 3) := by decide +kernel
theorem dX7_letFall_18 : decode cX7_letFall 18 = .ok (.iconst 0, 1) := by decide +kernel
theorem dX7_letFall_19 : decode cX7_letFall 19 = .ok (.istore 7, 2) := by decide +kernel
theorem dX7_letFall_21 : decode cX7_letFall 21 = .ok (.iload 7, 2) := by decide +kernel
theorem dX7_letFall_23 : decode cX7_letFall 23 = .ok (.iload 4, 2) := by decide +kernel
theorem dX7_letFall_25 : decode cX7_letFall 25 = .ok (.if_icmp .ge 99, 3) := by decide +kernel
theorem dX7_letFall_28 : decode cX7_letFall 28 = .ok (.iload 6, 2) := by decide +kernel
theorem dX7_letFall_30 : decode cX7_letFall 30 = .ok (.iload 7, 2) := by decide +kernel
theorem dX7_letFall_32 : decode cX7_letFall 32 = .ok (.iadd, 1) := by decide +kernel
theorem dX7_letFall_33 : decode cX7_letFall 33 = .ok (.aload_n 0, 1) := by decide +kernel
theorem dX7_letFall_34 : decode cX7_letFall 34 = .ok (.getfield 29, 3) := by decide +kernel
theorem dX7_letFall_37 : decode cX7_letFall 37 = .ok (.getfield 83, 3) := by decide +kernel
theorem dX7_letFall_40 : decode cX7_letFall 40 = .ok (.if_icmp .ge 84, 3) := by decide +kernel
theorem dX7_letFall_43 : decode cX7_letFall 43 = .ok (.iconst 0, 1) := by decide +kernel
theorem dX7_letFall_44 : decode cX7_letFall 44 = .ok (.istore 8, 2) := by decide +kernel
theorem dX7_letFall_46 : decode cX7_letFall 46 = .ok (.iload 8, 2) := by decide +kernel
theorem dX7_letFall_48 : decode cX7_letFall 48 = .ok (.iload_n 3, 1) := by decide +kernel
theorem dX7_letFall_49 : decode cX7_letFall 49 = .ok (.if_icmp .ge 69, 3) := by decide +kernel
theorem dX7_letFall_52 : decode cX7_letFall 52 = .ok (.iload 5, 2) := by decide +kernel
theorem dX7_letFall_54 : decode cX7_letFall 54 = .ok (.iload 8, 2) := by decide +kernel
theorem dX7_letFall_56 : decode cX7_letFall 56 = .ok (.iadd, 1) := by decide +kernel
theorem dX7_letFall_57 : decode cX7_letFall 57 = .ok (.aload_n 0, 1) := by decide +kernel
theorem dX7_letFall_58 : decode cX7_letFall 58 = .ok (.getfield 29, 3) := by decide +kernel
theorem dX7_letFall_61 : decode cX7_letFall 61 = .ok (.getfield 86, 3) := by decide +kernel
theorem dX7_letFall_64 : decode cX7_letFall 64 = .ok (.if_icmp .ge 54, 3) := by decide +kernel
theorem dX7_letFall_67 : decode cX7_letFall 67 = .ok (.iload 6, 2) := by decide +kernel
theorem dX7_letFall_69 : decode cX7_letFall 69 = .ok (.iload 7, 2) := by decide +kernel
theorem dX7_letFall_71 : decode cX7_letFall 71 = .ok (.iadd, 1) := by decide +kernel
theorem dX7_letFall_72 : decode cX7_letFall 72 = .ok (.bipush 8, 2) := by decide +kernel
theorem dX7_letFall_74 : decode cX7_letFall 74 = .ok (.imul, 1) := by decide +kernel
theorem dX7_letFall_75 : decode cX7_letFall 75 = .ok (.iload 5, 2) := by decide +kernel
theorem dX7_letFall_77 : decode cX7_letFall 77 = .ok (.iadd, 1) := by decide +kernel
theorem dX7_letFall_78 : decode cX7_letFall 78 = .ok (.iload 8, 2) := by decide +kernel
theorem dX7_letFall_80 : decode cX7_letFall 80 = .ok (.iadd, 1) := by decide +kernel
theorem dX7_letFall_81 : decode cX7_letFall 81 = .ok (.istore 9, 2) := by decide +kernel
theorem dX7_letFall_83 : decode cX7_letFall 83 = .ok (.aload_n 1, 1) := by decide +kernel
theorem dX7_letFall_84 : decode cX7_letFall 84 = .ok (.getfield 89, 3) := by decide +kernel
theorem dX7_letFall_87 : decode cX7_letFall 87 = .ok (.iload 9, 2) := by decide +kernel
theorem dX7_letFall_89 : decode cX7_letFall 89 = .ok (.aload_n 1, 1) := by decide +kernel
theorem dX7_letFall_90 : decode cX7_letFall 90 = .ok (.getfield 89, 3) := by decide +kernel
theorem dX7_letFall_93 : decode cX7_letFall 93 = .ok (.iload 9, 2) := by decide +kernel
theorem dX7_letFall_95 : decode cX7_letFall 95 = .ok (.iaload, 1) := by decide +kernel
theorem dX7_letFall_96 : decode cX7_letFall 96 = .ok (.aload_n 0, 1) := by decide +kernel
theorem dX7_letFall_97 : decode cX7_letFall 97 = .ok (.getfield 18, 3) := by decide +kernel
theorem dX7_letFall_100 : decode cX7_letFall 100 = .ok (.iload 7, 2) := by decide +kernel
theorem dX7_letFall_102 : decode cX7_letFall 102 = .ok (.iload_n 3, 1) := by decide +kernel
theorem dX7_letFall_103 : decode cX7_letFall 103 = .ok (.imul, 1) := by decide +kernel
theorem dX7_letFall_104 : decode cX7_letFall 104 = .ok (.iload 8, 2) := by decide +kernel
theorem dX7_letFall_106 : decode cX7_letFall 106 = .ok (.iadd, 1) := by decide +kernel
theorem dX7_letFall_107 : decode cX7_letFall 107 = .ok (.iaload, 1) := by decide +kernel
theorem dX7_letFall_108 : decode cX7_letFall 108 = .ok (.invokestatic 92, 3) := by decide +kernel
theorem dX7_letFall_111 : decode cX7_letFall 111 = .ok (.iastore, 1) := by decide +kernel
theorem dX7_letFall_112 : decode cX7_letFall 112 = .ok (.iinc 8 1, 3) := by decide +kernel
theorem dX7_letFall_115 : decode cX7_letFall 115 = .ok (.goto (-69), 3) := by decide +kernel
theorem dX7_letFall_118 : decode cX7_letFall 118 = .ok (.iinc 7 1, 3) := by decide +kernel
theorem dX7_letFall_121 : decode cX7_letFall 121 = .ok (.goto (-100), 3) := by decide +kernel
theorem dX7_letFall_124 : decode cX7_letFall 124 = .ok (.aload_n 1, 1) := by decide +kernel
theorem dX7_letFall_125 : decode cX7_letFall 125 = .ok (.dup, 1) := by decide +kernel
theorem dX7_letFall_126 : decode cX7_letFall 126 = .ok (.getfield 76, 3) := by decide +kernel
theorem dX7_letFall_129 : decode cX7_letFall 129 = .ok (.aload_n 0, 1) := by decide +kernel
theorem dX7_letFall_130 : decode cX7_letFall 130 = .ok (.getfield 21, 3) := by decide +kernel
theorem dX7_letFall_133 : decode cX7_letFall 133 = .ok (.isub, 1) := by decide +kernel
theorem dX7_letFall_134 : decode cX7_letFall 134 = .ok (.putfield 76, 3) := by decide +kernel
theorem dX7_letFall_137 : decode cX7_letFall 137 = .ok (.aload_n 1, 1) := by decide +kernel
theorem dX7_letFall_138 : decode cX7_letFall 138 = .ok (.iload_n 2, 1) := by decide +kernel
theorem dX7_letFall_139 : decode cX7_letFall 139 = .ok (.bipush 6, 2) := by decide +kernel
theorem dX7_letFall_141 : decode cX7_letFall 141 = .ok (.aload_n 0, 1) := by decide +kernel
theorem dX7_letFall_142 : decode cX7_letFall 142 = .ok (.getfield 21, 3) := by decide +kernel
theorem dX7_letFall_145 : decode cX7_letFall 145 = .ok (.invokevirtual 95, 3) := by decide +kernel
theorem dX7_letFall_148 : decode cX7_letFall 148 = .ok (.aload_n 1, 1) := by decide +kernel
theorem dX7_letFall_149 : decode cX7_letFall 149 = .ok (.iload_n 2, 1) := by decide +kernel
theorem dX7_letFall_150 : decode cX7_letFall 150 = .ok (.iconst 1, 1) := by decide +kernel
theorem dX7_letFall_151 : decode cX7_letFall 151 = .ok (.iload 4, 2) := by decide +kernel
theorem dX7_letFall_153 : decode cX7_letFall 153 = .ok (.invokevirtual 95, 3) := by decide +kernel
theorem dX7_letFall_156 : decode cX7_letFall 156 = .ok (.aload_n 0, 1) := by decide +kernel
theorem dX7_letFall_157 : decode cX7_letFall 157 = .ok (.getfield 25, 3) := by decide +kernel
theorem dX7_letFall_160 : decode cX7_letFall 160 = .ok (.ifCond .eq 11, 3) := by decide +kernel
theorem dX7_letFall_163 : decode cX7_letFall 163 = .ok (.aload_n 1, 1) := by decide +kernel
theorem dX7_letFall_164 : decode cX7_letFall 164 = .ok (.iload_n 2, 1) := by decide +kernel
theorem dX7_letFall_165 : decode cX7_letFall 165 = .ok (.bipush 7, 2) := by decide +kernel
theorem dX7_letFall_167 : decode cX7_letFall 167 = .ok (.iconst 1, 1) := by decide +kernel
theorem dX7_letFall_168 : decode cX7_letFall 168 = .ok (.invokevirtual 95, 3) := by decide +kernel
theorem dX7_letFall_171 : decode cX7_letFall 171 = .ok (.aload_n 0, 1) := by decide +kernel
theorem dX7_letFall_172 : decode cX7_letFall 172 = .ok (.getfield 21, 3) := by decide +kernel
theorem dX7_letFall_175 : decode cX7_letFall 175 = .ok (.ireturn, 1) := by decide +kernel
theorem dX7_wetter_0 : decode cX7_wetter 0 = .ok (.sipush 999, 3) := by decide +kernel
theorem dX7_wetter_3 : decode cX7_wetter 3 = .ok (.iload_n 0, 1) := by decide +kernel
theorem dX7_wetter_4 : decode cX7_wetter 4 = .ok (.iload_n 1, 1) := by decide +kernel
theorem dX7_wetter_5 : decode cX7_wetter 5 = .ok (.iadd, 1) := by decide +kernel
theorem dX7_wetter_6 : decode cX7_wetter 6 = .ok (.invokestatic 99, 3) := by decide +kernel
theorem dX7_wetter_9 : decode cX7_wetter 9 = .ok (.ireturn, 1) := by decide +kernel
theorem dX7_gain_0 : decode cX7_gain 0 = .ok (.iconst 0, 1) := by decide +kernel
theorem dX7_gain_1 : decode cX7_gain 1 = .ok (.istore 6, 2) := by decide +kernel
theorem dX7_gain_3 : decode cX7_gain 3 = .ok (.iconst 0, 1) := by decide +kernel
theorem dX7_gain_4 : decode cX7_gain 4 = .ok (.istore 7, 2) := by decide +kernel
theorem dX7_gain_6 : decode cX7_gain 6 = .ok (.iload 7, 2) := by decide +kernel
theorem dX7_gain_8 : decode cX7_gain 8 = .ok (.iload_n 3, 1) := by decide +kernel
theorem dX7_gain_9 : decode cX7_gain 9 = .ok (.if_icmp .ge 140, 3) := by decide +kernel
theorem dX7_gain_12 : decode cX7_gain 12 = .ok (.iconst 0, 1) := by decide +kernel
theorem dX7_gain_13 : decode cX7_gain 13 = .ok (.istore 8, 2) := by decide +kernel
theorem dX7_gain_15 : decode cX7_gain 15 = .ok (.iload 8, 2) := by decide +kernel
theorem dX7_gain_17 : decode cX7_gain 17 = .ok (.iload_n 2, 1) := by decide +kernel
theorem dX7_gain_18 : decode cX7_gain 18 = .ok (.if_icmp .ge 125, 3) := by decide +kernel
theorem dX7_gain_21 : decode cX7_gain 21 = .ok (.aload_n 0, 1) := by decide +kernel
theorem dX7_gain_22 : decode cX7_gain 22 = .ok (.getfield 29, 3) := by decide +kernel
theorem dX7_gain_25 : decode cX7_gain 25 = .ok (.iload 4, 2) := by decide +kernel
theorem dX7_gain_27 : decode cX7_gain 27 = .ok (.iload 8, 2) := by decide +kernel
theorem dX7_gain_29 : decode cX7_gain 29 = .ok (.iadd, 1) := by decide +kernel
theorem dX7_gain_30 : decode cX7_gain 30 = .ok (.iload 5, 2) := by decide +kernel
theorem dX7_gain_32 : decode cX7_gain 32 = .ok (.iload 7, 2) := by decide +kernel
theorem dX7_gain_34 : decode cX7_gain 34 = .ok (.iadd, 1) := by decide +kernel
theorem dX7_gain_35 : decode cX7_gain 35 = .ok (.invokevirtual 104, 3) := by decide +kernel
theorem dX7_gain_38 : decode cX7_gain 38 = .ok (.istore 9, 2) := by decide +kernel
theorem dX7_gain_40 : decode cX7_gain 40 = .ok (.aload_n 1, 1) := by decide +kernel
theorem dX7_gain_41 : decode cX7_gain 41 = .ok (.iload 4, 2) := by decide +kernel
theorem dX7_gain_43 : decode cX7_gain 43 = .ok (.iload 8, 2) := by decide +kernel
theorem dX7_gain_45 : decode cX7_gain 45 = .ok (.iadd, 1) := by decide +kernel
theorem dX7_gain_46 : decode cX7_gain 46 = .ok (.iload 5, 2) := by decide +kernel
theorem dX7_gain_48 : decode cX7_gain 48 = .ok (.iload 7, 2) := by decide +kernel
theorem dX7_gain_50 : decode cX7_gain 50 = .ok (.iadd, 1) := by decide +kernel
theorem dX7_gain_51 : decode cX7_gain 51 = .ok (.invokevirtual 107, 3) := by decide +kernel
theorem dX7_gain_54 : decode cX7_gain 54 = .ok (.istore 10, 2) := by decide +kernel
theorem dX7_gain_56 : decode cX7_gain 56 = .ok (.iload 10, 2) := by decide +kernel
theorem dX7_gain_58 : decode cX7_gain 58 = .ok (.aload_n 0, 1) := by decide +kernel
theorem dX7_gain_59 : decode cX7_gain 59 = .ok (.getfield 18, 3) := by decide +kernel
theorem dX7_gain_62 : decode cX7_gain 62 = .ok (.iload 7, 2) := by decide +kernel
theorem dX7_gain_64 : decode cX7_gain 64 = .ok (.iload_n 2, 1) := by decide +kernel
theorem dX7_gain_65 : decode cX7_gain 65 = .ok (.imul, 1) := by decide +kernel
theorem dX7_gain_66 : decode cX7_gain 66 = .ok (.iload 8, 2) := by decide +kernel
theorem dX7_gain_68 : decode cX7_gain 68 = .ok (.iadd, 1) := by decide +kernel
theorem dX7_gain_69 : decode cX7_gain 69 = .ok (.iaload, 1) := by decide +kernel
theorem dX7_gain_70 : decode cX7_gain 70 = .ok (.invokestatic 92, 3) := by decide +kernel
theorem dX7_gain_73 : decode cX7_gain 73 = .ok (.istore 11, 2) := by decide +kernel
theorem dX7_gain_75 : decode cX7_gain 75 = .ok (.aload_n 0, 1) := by decide +kernel
theorem dX7_gain_76 : decode cX7_gain 76 = .ok (.getfield 29, 3) := by decide +kernel
theorem dX7_gain_79 : decode cX7_gain 79 = .ok (.iload 9, 2) := by decide +kernel
theorem dX7_gain_81 : decode cX7_gain 81 = .ok (.iload 10, 2) := by decide +kernel
theorem dX7_gain_83 : decode cX7_gain 83 = .ok (.invokevirtual 110, 3) := by decide +kernel
theorem dX7_gain_86 : decode cX7_gain 86 = .ok (.ifCond .eq 20, 3) := by decide +kernel
theorem dX7_gain_89 : decode cX7_gain 89 = .ok (.aload_n 0, 1) := by decide +kernel
theorem dX7_gain_90 : decode cX7_gain 90 = .ok (.getfield 29, 3) := by decide +kernel
theorem dX7_gain_93 : decode cX7_gain 93 = .ok (.iload 9, 2) := by decide +kernel
theorem dX7_gain_95 : decode cX7_gain 95 = .ok (.iload 11, 2) := by decide +kernel
theorem dX7_gain_97 : decode cX7_gain 97 = .ok (.invokevirtual 110, 3) := by decide +kernel
theorem dX7_gain_100 : decode cX7_gain 100 = .ok (.ifCond .ne 6, 3) := by decide +kernel
theorem dX7_gain_103 : decode cX7_gain 103 = .ok (.iinc 6 1, 3) := by decide +kernel
theorem dX7_gain_106 : decode cX7_gain 106 = .ok (.aload_n 0, 1) := by decide +kernel
theorem dX7_gain_107 : decode cX7_gain 107 = .ok (.getfield 29, 3) := by decide +kernel
theorem dX7_gain_110 : decode cX7_gain 110 = .ok (.iload 9, 2) := by decide +kernel
theorem dX7_gain_112 : decode cX7_gain 112 = .ok (.iload 10, 2) := by decide +kernel
theorem dX7_gain_114 : decode cX7_gain 114 = .ok (.invokevirtual 114, 3) := by decide +kernel
theorem dX7_gain_117 : decode cX7_gain 117 = .ok (.ifCond .ne 20, 3) := by decide +kernel
theorem dX7_gain_120 : decode cX7_gain 120 = .ok (.aload_n 0, 1) := by decide +kernel
theorem dX7_gain_121 : decode cX7_gain 121 = .ok (.getfield 29, 3) := by decide +kernel
theorem dX7_gain_124 : decode cX7_gain 124 = .ok (.iload 9, 2) := by decide +kernel
theorem dX7_gain_126 : decode cX7_gain 126 = .ok (.iload 11, 2) := by decide +kernel
theorem dX7_gain_128 : decode cX7_gain 128 = .ok (.invokevirtual 114, 3) := by decide +kernel
theorem dX7_gain_131 : decode cX7_gain 131 = .ok (.ifCond .eq 6, 3) := by decide +kernel
theorem dX7_gain_134 : decode cX7_gain 134 = .ok (.iinc 6 (-1), 3) := by decide +kernel
theorem dX7_gain_137 : decode cX7_gain 137 = .ok (.iinc 8 1, 3) := by decide +kernel
theorem dX7_gain_140 : decode cX7_gain 140 = .ok (.goto (-125), 3) := by decide +kernel
theorem dX7_gain_143 : decode cX7_gain 143 = .ok (.iinc 7 1, 3) := by decide +kernel
theorem dX7_gain_146 : decode cX7_gain 146 = .ok (.goto (-140), 3) := by decide +kernel
theorem dX7_gain_149 : decode cX7_gain 149 = .ok (.iload 6, 2) := by decide +kernel
theorem dX7_gain_151 : decode cX7_gain 151 = .ok (.ireturn, 1) := by decide +kernel
theorem dX7_passDays_0 : decode cX7_passDays 0 = .ok (.iconst 0, 1) := by decide +kernel
theorem dX7_passDays_1 : decode cX7_passDays 1 = .ok (.istore 4, 2) := by decide +kernel
theorem dX7_passDays_3 : decode cX7_passDays 3 = .ok (.iload 4, 2) := by decide +kernel
theorem dX7_passDays_5 : decode cX7_passDays 5 = .ok (.iload_n 2, 1) := by decide +kernel
theorem dX7_passDays_6 : decode cX7_passDays 6 = .ok (.if_icmp .ge 30, 3) := by decide +kernel
theorem dX7_passDays_9 : decode cX7_passDays 9 = .ok (.aload_n 0, 1) := by decide +kernel
theorem dX7_passDays_10 : decode cX7_passDays 10 = .ok (.aload_n 1, 1) := by decide +kernel
theorem dX7_passDays_11 : decode cX7_passDays 11 = .ok (.iload_n 3, 1) := by decide +kernel
theorem dX7_passDays_12 : decode cX7_passDays 12 = .ok (.invokevirtual 117, 3) := by decide +kernel
theorem dX7_passDays_15 : decode cX7_passDays 15 = .ok (.aload_n 0, 1) := by decide +kernel
theorem dX7_passDays_16 : decode cX7_passDays 16 = .ok (.aload_n 1, 1) := by decide +kernel
theorem dX7_passDays_17 : decode cX7_passDays 17 = .ok (.invokevirtual 121, 3) := by decide +kernel
theorem dX7_passDays_20 : decode cX7_passDays 20 = .ok (.aload_n 0, 1) := by decide +kernel
theorem dX7_passDays_21 : decode cX7_passDays 21 = .ok (.aload_n 1, 1) := by decide +kernel
theorem dX7_passDays_22 : decode cX7_passDays 22 = .ok (.invokevirtual 125, 3) := by decide +kernel
theorem dX7_passDays_25 : decode cX7_passDays 25 = .ok (.aload_n 0, 1) := by decide +kernel
theorem dX7_passDays_26 : decode cX7_passDays 26 = .ok (.aload_n 1, 1) := by decide +kernel
theorem dX7_passDays_27 : decode cX7_passDays 27 = .ok (.invokevirtual 128, 3) := by decide +kernel
theorem dX7_passDays_30 : decode cX7_passDays 30 = .ok (.iinc 4 1, 3) := by decide +kernel
theorem dX7_passDays_33 : decode cX7_passDays 33 = .ok (.goto (-30), 3) := by decide +kernel
theorem dX7_passDays_36 : decode cX7_passDays 36 = .ok (.return_, 1) := by decide +kernel
theorem dX7_passStoreDay_0 : decode cX7_passStoreDay 0 = .ok (.aload_n 0, 1) := by decide +kernel
theorem dX7_passStoreDay_1 : decode cX7_passStoreDay 1 = .ok (.aload_n 1, 1) := by decide +kernel
theorem dX7_passStoreDay_2 : decode cX7_passStoreDay 2 = .ok (.aload_n 0, 1) := by decide +kernel
theorem dX7_passStoreDay_3 : decode cX7_passStoreDay 3 = .ok (.getfield 29, 3) := by decide +kernel
theorem dX7_passStoreDay_6 : decode cX7_passStoreDay 6 = .ok (.getfield 131, 3) := by decide +kernel
theorem dX7_passStoreDay_9 : decode cX7_passStoreDay 9 = .ok (.invokevirtual 117, 3) := by decide +kernel
theorem dX7_passStoreDay_12 : decode cX7_passStoreDay 12 = .ok (.aload_n 0, 1) := by decide +kernel
theorem dX7_passStoreDay_13 : decode cX7_passStoreDay 13 = .ok (.aload_n 1, 1) := by decide +kernel
theorem dX7_passStoreDay_14 : decode cX7_passStoreDay 14 = .ok (.invokevirtual 128, 3) := by decide +kernel
theorem dX7_passStoreDay_17 : decode cX7_passStoreDay 17 = .ok (.return_, 1) := by decide +kernel
theorem dX7_letOrdersFall_0 : decode cX7_letOrdersFall 0 = .ok (.iconst 0, 1) := by decide +kernel
theorem dX7_letOrdersFall_1 : decode cX7_letOrdersFall 1 = .ok (.istore_n 3, 1) := by decide +kernel
theorem dX7_letOrdersFall_2 : decode cX7_letOrdersFall 2 = .ok (.iload_n 3, 1) := by decide +kernel
theorem dX7_letOrdersFall_3 : decode cX7_letOrdersFall 3 = .ok (.aload_n 0, 1) := by decide +kernel
theorem dX7_letOrdersFall_4 : decode cX7_letOrdersFall 4 = .ok (.getfield 29, 3) := by decide +kernel
theorem dX7_letOrdersFall_7 : decode cX7_letOrdersFall 7 = .ok (.getfield 134, 3) := by decide +kernel
theorem dX7_letOrdersFall_10 : decode cX7_letOrdersFall 10 = .ok (.if_icmp .ge 80, 3) := by decide +kernel
theorem dX7_letOrdersFall_13 : decode cX7_letOrdersFall 13 = .ok (.aload_n 1, 1) := by decide +kernel
theorem dX7_letOrdersFall_14 : decode cX7_letOrdersFall 14 = .ok (.iload_n 3, 1) := by decide +kernel
theorem dX7_letOrdersFall_15 : decode cX7_letOrdersFall 15 = .ok (.invokevirtual 137, 3) := by decide +kernel
theorem dX7_letOrdersFall_18 : decode cX7_letOrdersFall 18 = .ok (.ifCond .eq 66, 3) := by decide +kernel
theorem dX7_letOrdersFall_21 : decode cX7_letOrdersFall 21 = .ok (.aload_n 1, 1) := by decide +kernel
theorem dX7_letOrdersFall_22 : decode cX7_letOrdersFall 22 = .ok (.iload_n 3, 1) := by decide +kernel
theorem dX7_letOrdersFall_23 : decode cX7_letOrdersFall 23 = .ok (.iconst 4, 1) := by decide +kernel
theorem dX7_letOrdersFall_24 : decode cX7_letOrdersFall 24 = .ok (.invokevirtual 73, 3) := by decide +kernel
theorem dX7_letOrdersFall_27 : decode cX7_letOrdersFall 27 = .ok (.istore 4, 2) := by decide +kernel
theorem dX7_letOrdersFall_29 : decode cX7_letOrdersFall 29 = .ok (.bipush 100, 2) := by decide +kernel
theorem dX7_letOrdersFall_31 : decode cX7_letOrdersFall 31 = .ok (.iload_n 2, 1) := by decide +kernel
theorem dX7_letOrdersFall_32 : decode cX7_letOrdersFall 32 = .ok (.bipush 8, 2) := by decide +kernel
theorem dX7_letOrdersFall_34 : decode cX7_letOrdersFall 34 = .ok (.aload_n 1, 1) := by decide +kernel
theorem dX7_letOrdersFall_35 : decode cX7_letOrdersFall 35 = .ok (.getfield 140, 3) := by decide +kernel
theorem dX7_letOrdersFall_38 : decode cX7_letOrdersFall 38 = .ok (.imul, 1) := by decide +kernel
theorem dX7_letOrdersFall_39 : decode cX7_letOrdersFall 39 = .ok (.iload_n 3, 1) := by decide +kernel
theorem dX7_letOrdersFall_40 : decode cX7_letOrdersFall 40 = .ok (.iadd, 1) := by decide +kernel
theorem dX7_letOrdersFall_41 : decode cX7_letOrdersFall 41 = .ok (.invokestatic 143, 3) := by decide +kernel
theorem dX7_letOrdersFall_44 : decode cX7_letOrdersFall 44 = .ok (.aload_n 0, 1) := by decide +kernel
theorem dX7_letOrdersFall_45 : decode cX7_letOrdersFall 45 = .ok (.getfield 29, 3) := by decide +kernel
theorem dX7_letOrdersFall_48 : decode cX7_letOrdersFall 48 = .ok (.getfield 147, 3) := by decide +kernel
theorem dX7_letOrdersFall_51 : decode cX7_letOrdersFall 51 = .ok (.if_icmp .ge 6, 3) := by decide +kernel
theorem dX7_letOrdersFall_54 : decode cX7_letOrdersFall 54 = .ok (.iinc 4 1, 3) := by decide +kernel
theorem dX7_letOrdersFall_57 : decode cX7_letOrdersFall 57 = .ok (.aload_n 0, 1) := by decide +kernel
theorem dX7_letOrdersFall_58 : decode cX7_letOrdersFall 58 = .ok (.aload_n 1, 1) := by decide +kernel
theorem dX7_letOrdersFall_59 : decode cX7_letOrdersFall 59 = .ok (.iload_n 3, 1) := by decide +kernel
theorem dX7_letOrdersFall_60 : decode cX7_letOrdersFall 60 = .ok (.aload_n 1, 1) := by decide +kernel
theorem dX7_letOrdersFall_61 : decode cX7_letOrdersFall 61 = .ok (.iload_n 3, 1) := by decide +kernel
theorem dX7_letOrdersFall_62 : decode cX7_letOrdersFall 62 = .ok (.iconst 2, 1) := by decide +kernel
theorem dX7_letOrdersFall_63 : decode cX7_letOrdersFall 63 = .ok (.invokevirtual 73, 3) := by decide +kernel
theorem dX7_letOrdersFall_66 : decode cX7_letOrdersFall 66 = .ok (.aload_n 1, 1) := by decide +kernel
theorem dX7_letOrdersFall_67 : decode cX7_letOrdersFall 67 = .ok (.iload_n 3, 1) := by decide +kernel
theorem dX7_letOrdersFall_68 : decode cX7_letOrdersFall 68 = .ok (.iconst 3, 1) := by decide +kernel
theorem dX7_letOrdersFall_69 : decode cX7_letOrdersFall 69 = .ok (.invokevirtual 73, 3) := by decide +kernel
theorem dX7_letOrdersFall_72 : decode cX7_letOrdersFall 72 = .ok (.iload 4, 2) := by decide +kernel
theorem dX7_letOrdersFall_74 : decode cX7_letOrdersFall 74 = .ok (.aload_n 1, 1) := by decide +kernel
theorem dX7_letOrdersFall_75 : decode cX7_letOrdersFall 75 = .ok (.iload_n 3, 1) := by decide +kernel
theorem dX7_letOrdersFall_76 : decode cX7_letOrdersFall 76 = .ok (.iconst 5, 1) := by decide +kernel
theorem dX7_letOrdersFall_77 : decode cX7_letOrdersFall 77 = .ok (.invokevirtual 73, 3) := by decide +kernel
theorem dX7_letOrdersFall_80 : decode cX7_letOrdersFall 80 = .ok (.invokevirtual 150, 3) := by decide +kernel
theorem dX7_letOrdersFall_83 : decode cX7_letOrdersFall 83 = .ok (.pop, 1) := by decide +kernel
theorem dX7_letOrdersFall_84 : decode cX7_letOrdersFall 84 = .ok (.iinc 3 1, 3) := by decide +kernel
theorem dX7_letOrdersFall_87 : decode cX7_letOrdersFall 87 = .ok (.goto (-85), 3) := by decide +kernel
theorem dX7_letOrdersFall_90 : decode cX7_letOrdersFall 90 = .ok (.return_, 1) := by decide +kernel
theorem dX7_lot_0 : decode cX7_lot 0 = .ok (.iload_n 1, 1) := by decide +kernel
theorem dX7_lot_1 : decode cX7_lot 1 = .ok (.bipush 75, 2) := by decide +kernel
theorem dX7_lot_3 : decode cX7_lot 3 = .ok (.invokestatic 154, 3) := by decide +kernel
theorem dX7_lot_6 : decode cX7_lot 6 = .ok (.iload_n 2, 1) := by decide +kernel
theorem dX7_lot_7 : decode cX7_lot 7 = .ok (.invokestatic 154, 3) := by decide +kernel
theorem dX7_lot_10 : decode cX7_lot 10 = .ok (.istore_n 3, 1) := by decide +kernel
theorem dX7_lot_11 : decode cX7_lot 11 = .ok (.iload_n 0, 1) := by decide +kernel
theorem dX7_lot_12 : decode cX7_lot 12 = .ok (.ifCond .le 11, 3) := by decide +kernel
theorem dX7_lot_15 : decode cX7_lot 15 = .ok (.iload_n 3, 1) := by decide +kernel
theorem dX7_lot_16 : decode cX7_lot 16 = .ok (.iconst 1, 1) := by decide +kernel
theorem dX7_lot_17 : decode cX7_lot 17 = .ok (.iushr, 1) := by decide +kernel
theorem dX7_lot_18 : decode cX7_lot 18 = .ok (.iload_n 0, 1) := by decide +kernel
theorem dX7_lot_19 : decode cX7_lot 19 = .ok (.irem, 1) := by decide +kernel
theorem dX7_lot_20 : decode cX7_lot 20 = .ok (.goto 4, 3) := by decide +kernel
theorem dX7_lot_23 : decode cX7_lot 23 = .ok (.iconst 0, 1) := by decide +kernel
theorem dX7_lot_24 : decode cX7_lot 24 = .ok (.ireturn, 1) := by decide +kernel
theorem dX7_mix_0 : decode cX7_mix 0 = .ok (.iload_n 0, 1) := by decide +kernel
theorem dX7_mix_1 : decode cX7_mix 1 = .ok (.iload_n 1, 1) := by decide +kernel
theorem dX7_mix_2 : decode cX7_mix 2 = .ok (.ixor, 1) := by decide +kernel
theorem dX7_mix_3 : decode cX7_mix 3 = .ok (.ldc 157, 2) := by decide +kernel
theorem dX7_mix_5 : decode cX7_mix 5 = .ok (.imul, 1) := by decide +kernel
theorem dX7_mix_6 : decode cX7_mix 6 = .ok (.sipush 12345, 3) := by decide +kernel
theorem dX7_mix_9 : decode cX7_mix 9 = .ok (.iadd, 1) := by decide +kernel
theorem dX7_mix_10 : decode cX7_mix 10 = .ok (.istore_n 2, 1) := by decide +kernel
theorem dX7_mix_11 : decode cX7_mix 11 = .ok (.iload_n 2, 1) := by decide +kernel
theorem dX7_mix_12 : decode cX7_mix 12 = .ok (.iload_n 2, 1) := by decide +kernel
theorem dX7_mix_13 : decode cX7_mix 13 = .ok (.bipush 15, 2) := by decide +kernel
theorem dX7_mix_15 : decode cX7_mix 15 = .ok (.iushr, 1) := by decide +kernel
theorem dX7_mix_16 : decode cX7_mix 16 = .ok (.ixor, 1) := by decide +kernel
theorem dX7_mix_17 : decode cX7_mix 17 = .ok (.ireturn, 1) := by decide +kernel
theorem dX7_tally_0 : decode cX7_tally 0 = .ok (.iconst 0, 1) := by decide +kernel
theorem dX7_tally_1 : decode cX7_tally 1 = .ok (.istore_n 2, 1) := by decide +kernel
theorem dX7_tally_2 : decode cX7_tally 2 = .ok (.iload_n 2, 1) := by decide +kernel
theorem dX7_tally_3 : decode cX7_tally 3 = .ok (.bipush 48, 2) := by decide +kernel
theorem dX7_tally_5 : decode cX7_tally 5 = .ok (.if_icmp .ge 73, 3) := by decide +kernel
theorem dX7_tally_8 : decode cX7_tally 8 = .ok (.aload_n 0, 1) := by decide +kernel
theorem dX7_tally_9 : decode cX7_tally 9 = .ok (.getfield 29, 3) := by decide +kernel
theorem dX7_tally_12 : decode cX7_tally 12 = .ok (.getfield 158, 3) := by decide +kernel
theorem dX7_tally_15 : decode cX7_tally 15 = .ok (.iload_n 2, 1) := by decide +kernel
theorem dX7_tally_16 : decode cX7_tally 16 = .ok (.iaload, 1) := by decide +kernel
theorem dX7_tally_17 : decode cX7_tally 17 = .ok (.istore_n 3, 1) := by decide +kernel
theorem dX7_tally_18 : decode cX7_tally 18 = .ok (.aload_n 0, 1) := by decide +kernel
theorem dX7_tally_19 : decode cX7_tally 19 = .ok (.getfield 29, 3) := by decide +kernel
theorem dX7_tally_22 : decode cX7_tally 22 = .ok (.iload_n 3, 1) := by decide +kernel
theorem dX7_tally_23 : decode cX7_tally 23 = .ok (.aload_n 1, 1) := by decide +kernel
theorem dX7_tally_24 : decode cX7_tally 24 = .ok (.getfield 89, 3) := by decide +kernel
theorem dX7_tally_27 : decode cX7_tally 27 = .ok (.iload_n 2, 1) := by decide +kernel
theorem dX7_tally_28 : decode cX7_tally 28 = .ok (.iaload, 1) := by decide +kernel
theorem dX7_tally_29 : decode cX7_tally 29 = .ok (.invokevirtual 110, 3) := by decide +kernel
theorem dX7_tally_32 : decode cX7_tally 32 = .ok (.ifCond .eq 13, 3) := by decide +kernel
theorem dX7_tally_35 : decode cX7_tally 35 = .ok (.aload_n 1, 1) := by decide +kernel
theorem dX7_tally_36 : decode cX7_tally 36 = .ok (.getfield 161, 3) := by decide +kernel
theorem dX7_tally_39 : decode cX7_tally 39 = .ok (.iload_n 3, 1) := by decide +kernel
theorem dX7_tally_40 : decode cX7_tally 40 = .ok (.dup2, 1) := by decide +kernel
theorem dX7_tally_41 : decode cX7_tally 41 = .ok (.iaload, 1) := by decide +kernel
theorem dX7_tally_42 : decode cX7_tally 42 = .ok (.iconst 1, 1) := by decide +kernel
theorem dX7_tally_43 : decode cX7_tally 43 = .ok (.iadd, 1) := by decide +kernel
theorem dX7_tally_44 : decode cX7_tally 44 = .ok (.iastore, 1) := by decide +kernel
theorem dX7_tally_45 : decode cX7_tally 45 = .ok (.aload_n 0, 1) := by decide +kernel
theorem dX7_tally_46 : decode cX7_tally 46 = .ok (.getfield 29, 3) := by decide +kernel
theorem dX7_tally_49 : decode cX7_tally 49 = .ok (.iload_n 3, 1) := by decide +kernel
theorem dX7_tally_50 : decode cX7_tally 50 = .ok (.aload_n 1, 1) := by decide +kernel
theorem dX7_tally_51 : decode cX7_tally 51 = .ok (.getfield 89, 3) := by decide +kernel
theorem dX7_tally_54 : decode cX7_tally 54 = .ok (.iload_n 2, 1) := by decide +kernel
theorem dX7_tally_55 : decode cX7_tally 55 = .ok (.iaload, 1) := by decide +kernel
theorem dX7_tally_56 : decode cX7_tally 56 = .ok (.invokevirtual 114, 3) := by decide +kernel
theorem dX7_tally_59 : decode cX7_tally 59 = .ok (.ifCond .eq 13, 3) := by decide +kernel
theorem dX7_tally_62 : decode cX7_tally 62 = .ok (.aload_n 1, 1) := by decide +kernel
theorem dX7_tally_63 : decode cX7_tally 63 = .ok (.getfield 164, 3) := by decide +kernel
theorem dX7_tally_66 : decode cX7_tally 66 = .ok (.iload_n 3, 1) := by decide +kernel
theorem dX7_tally_67 : decode cX7_tally 67 = .ok (.dup2, 1) := by decide +kernel
theorem dX7_tally_68 : decode cX7_tally 68 = .ok (.iaload, 1) := by decide +kernel
theorem dX7_tally_69 : decode cX7_tally 69 = .ok (.iconst 1, 1) := by decide +kernel
theorem dX7_tally_70 : decode cX7_tally 70 = .ok (.iadd, 1) := by decide +kernel
theorem dX7_tally_71 : decode cX7_tally 71 = .ok (.iastore, 1) := by decide +kernel
theorem dX7_tally_72 : decode cX7_tally 72 = .ok (.iinc 2 1, 3) := by decide +kernel
theorem dX7_tally_75 : decode cX7_tally 75 = .ok (.goto (-73), 3) := by decide +kernel
theorem dX7_tally_78 : decode cX7_tally 78 = .ok (.return_, 1) := by decide +kernel
theorem dX7_dryCells_0 : decode cX7_dryCells 0 = .ok (.aload_n 0, 1) := by decide +kernel
theorem dX7_dryCells_1 : decode cX7_dryCells 1 = .ok (.getfield 29, 3) := by decide +kernel
theorem dX7_dryCells_4 : decode cX7_dryCells 4 = .ok (.getfield 167, 3) := by decide +kernel
theorem dX7_dryCells_7 : decode cX7_dryCells 7 = .ok (.getfield 49, 3) := by decide +kernel
theorem dX7_dryCells_10 : decode cX7_dryCells 10 = .ok (.astore_n 2, 1) := by decide +kernel
theorem dX7_dryCells_11 : decode cX7_dryCells 11 = .ok (.aload_n 2, 1) := by decide +kernel
theorem dX7_dryCells_12 : decode cX7_dryCells 12 = .ok (.bipush 6, 2) := by decide +kernel
theorem dX7_dryCells_14 : decode cX7_dryCells 14 = .ok (.aload_n 1, 1) := by decide +kernel
theorem dX7_dryCells_15 : decode cX7_dryCells 15 = .ok (.getfield 140, 3) := by decide +kernel
theorem dX7_dryCells_18 : decode cX7_dryCells 18 = .ok (.iastore, 1) := by decide +kernel
theorem dX7_dryCells_19 : decode cX7_dryCells 19 = .ok (.iconst 0, 1) := by decide +kernel
theorem dX7_dryCells_20 : decode cX7_dryCells 20 = .ok (.istore_n 3, 1) := by decide +kernel
theorem dX7_dryCells_21 : decode cX7_dryCells 21 = .ok (.iload_n 3, 1) := by decide +kernel
theorem dX7_dryCells_22 : decode cX7_dryCells 22 = .ok (.bipush 48, 2) := by decide +kernel
theorem dX7_dryCells_24 : decode cX7_dryCells 24 = .ok (.if_icmp .ge 128, 3) := by decide +kernel
theorem dX7_dryCells_27 : decode cX7_dryCells 27 = .ok (.aload_n 1, 1) := by decide +kernel
theorem dX7_dryCells_28 : decode cX7_dryCells 28 = .ok (.getfield 89, 3) := by decide +kernel
theorem dX7_dryCells_31 : decode cX7_dryCells 31 = .ok (.iload_n 3, 1) := by decide +kernel
theorem dX7_dryCells_32 : decode cX7_dryCells 32 = .ok (.iaload, 1) := by decide +kernel
theorem dX7_dryCells_33 : decode cX7_dryCells 33 = .ok (.ifCond .le 113, 3) := by decide +kernel
theorem dX7_dryCells_36 : decode cX7_dryCells 36 = .ok (.aload_n 0, 1) := by decide +kernel
theorem dX7_dryCells_37 : decode cX7_dryCells 37 = .ok (.getfield 29, 3) := by decide +kernel
theorem dX7_dryCells_40 : decode cX7_dryCells 40 = .ok (.getfield 158, 3) := by decide +kernel
theorem dX7_dryCells_43 : decode cX7_dryCells 43 = .ok (.iload_n 3, 1) := by decide +kernel
theorem dX7_dryCells_44 : decode cX7_dryCells 44 = .ok (.iaload, 1) := by decide +kernel
theorem dX7_dryCells_45 : decode cX7_dryCells 45 = .ok (.istore 4, 2) := by decide +kernel
theorem dX7_dryCells_47 : decode cX7_dryCells 47 = .ok (.aload_n 2, 1) := by decide +kernel
theorem dX7_dryCells_48 : decode cX7_dryCells 48 = .ok (.iconst 3, 1) := by decide +kernel
theorem dX7_dryCells_49 : decode cX7_dryCells 49 = .ok (.aload_n 1, 1) := by decide +kernel
theorem dX7_dryCells_50 : decode cX7_dryCells 50 = .ok (.getfield 89, 3) := by decide +kernel
theorem dX7_dryCells_53 : decode cX7_dryCells 53 = .ok (.iload_n 3, 1) := by decide +kernel
theorem dX7_dryCells_54 : decode cX7_dryCells 54 = .ok (.iaload, 1) := by decide +kernel
theorem dX7_dryCells_55 : decode cX7_dryCells 55 = .ok (.iastore, 1) := by decide +kernel
theorem dX7_dryCells_56 : decode cX7_dryCells 56 = .ok (.aload_n 2, 1) := by decide +kernel
theorem dX7_dryCells_57 : decode cX7_dryCells 57 = .ok (.iconst 4, 1) := by decide +kernel
theorem dX7_dryCells_58 : decode cX7_dryCells 58 = .ok (.aload_n 0, 1) := by decide +kernel
theorem dX7_dryCells_59 : decode cX7_dryCells 59 = .ok (.getfield 29, 3) := by decide +kernel
theorem dX7_dryCells_62 : decode cX7_dryCells 62 = .ok (.iload 4, 2) := by decide +kernel
theorem dX7_dryCells_64 : decode cX7_dryCells 64 = .ok (.invokevirtual 170, 3) := by decide +kernel
theorem dX7_dryCells_67 : decode cX7_dryCells 67 = .ok (.ifCond .eq 16, 3) := by decide +kernel
theorem dX7_dryCells_70 : decode cX7_dryCells 70 = .ok (.aload_n 0, 1) := by decide +kernel
theorem dX7_dryCells_71 : decode cX7_dryCells 71 = .ok (.getfield 29, 3) := by decide +kernel
theorem dX7_dryCells_74 : decode cX7_dryCells 74 = .ok (.getfield 173, 3) := by decide +kernel
theorem dX7_dryCells_77 : decode cX7_dryCells 77 = .ok (.iload 4, 2) := by decide +kernel
theorem dX7_dryCells_79 : decode cX7_dryCells 79 = .ok (.iaload, 1) := by decide +kernel
theorem dX7_dryCells_80 : decode cX7_dryCells 80 = .ok (.goto 4, 3) := by decide +kernel
theorem dX7_dryCells_83 : decode cX7_dryCells 83 = .ok (.iconst 0, 1) := by decide +kernel
theorem dX7_dryCells_84 : decode cX7_dryCells 84 = .ok (.iastore, 1) := by decide +kernel
theorem dX7_dryCells_85 : decode cX7_dryCells 85 = .ok (.aload_n 2, 1) := by decide +kernel
theorem dX7_dryCells_86 : decode cX7_dryCells 86 = .ok (.iconst 5, 1) := by decide +kernel
theorem dX7_dryCells_87 : decode cX7_dryCells 87 = .ok (.aload_n 0, 1) := by decide +kernel
theorem dX7_dryCells_88 : decode cX7_dryCells 88 = .ok (.getfield 29, 3) := by decide +kernel
theorem dX7_dryCells_91 : decode cX7_dryCells 91 = .ok (.iload 4, 2) := by decide +kernel
theorem dX7_dryCells_93 : decode cX7_dryCells 93 = .ok (.invokevirtual 170, 3) := by decide +kernel
theorem dX7_dryCells_96 : decode cX7_dryCells 96 = .ok (.ifCond .eq 16, 3) := by decide +kernel
theorem dX7_dryCells_99 : decode cX7_dryCells 99 = .ok (.aload_n 0, 1) := by decide +kernel
theorem dX7_dryCells_100 : decode cX7_dryCells 100 = .ok (.getfield 29, 3) := by decide +kernel
theorem dX7_dryCells_103 : decode cX7_dryCells 103 = .ok (.getfield 176, 3) := by decide +kernel
theorem dX7_dryCells_106 : decode cX7_dryCells 106 = .ok (.iload 4, 2) := by decide +kernel
theorem dX7_dryCells_108 : decode cX7_dryCells 108 = .ok (.iaload, 1) := by decide +kernel
theorem dX7_dryCells_109 : decode cX7_dryCells 109 = .ok (.goto 4, 3) := by decide +kernel
theorem dX7_dryCells_112 : decode cX7_dryCells 112 = .ok (.iconst 0, 1) := by decide +kernel
theorem dX7_dryCells_113 : decode cX7_dryCells 113 = .ok (.iastore, 1) := by decide +kernel
theorem dX7_dryCells_114 : decode cX7_dryCells 114 = .ok (.aload_n 1, 1) := by decide +kernel
theorem dX7_dryCells_115 : decode cX7_dryCells 115 = .ok (.getfield 89, 3) := by decide +kernel
theorem dX7_dryCells_118 : decode cX7_dryCells 118 = .ok (.iload_n 3, 1) := by decide +kernel
theorem dX7_dryCells_119 : decode cX7_dryCells 119 = .ok (.iconst 0, 1) := by decide +kernel
theorem dX7_dryCells_120 : decode cX7_dryCells 120 = .ok (.aload_n 1, 1) := by decide +kernel
theorem dX7_dryCells_121 : decode cX7_dryCells 121 = .ok (.getfield 89, 3) := by decide +kernel
theorem dX7_dryCells_124 : decode cX7_dryCells 124 = .ok (.iload_n 3, 1) := by decide +kernel
theorem dX7_dryCells_125 : decode cX7_dryCells 125 = .ok (.iaload, 1) := by decide +kernel
theorem dX7_dryCells_126 : decode cX7_dryCells 126 = .ok (.aload_n 0, 1) := by decide +kernel
theorem dX7_dryCells_127 : decode cX7_dryCells 127 = .ok (.getfield 29, 3) := by decide +kernel
theorem dX7_dryCells_130 : decode cX7_dryCells 130 = .ok (.getfield 167, 3) := by decide +kernel
theorem dX7_dryCells_133 : decode cX7_dryCells 133 = .ok (.invokevirtual 57, 3) := by decide +kernel
theorem dX7_dryCells_136 : decode cX7_dryCells 136 = .ok (.bipush 99, 2) := by decide +kernel
theorem dX7_dryCells_138 : decode cX7_dryCells 138 = .ok (.invokestatic 61, 3) := by decide +kernel
theorem dX7_dryCells_141 : decode cX7_dryCells 141 = .ok (.isub, 1) := by decide +kernel
theorem dX7_dryCells_142 : decode cX7_dryCells 142 = .ok (.invokestatic 179, 3) := by decide +kernel
theorem dX7_dryCells_145 : decode cX7_dryCells 145 = .ok (.iastore, 1) := by decide +kernel
theorem dX7_dryCells_146 : decode cX7_dryCells 146 = .ok (.iinc 3 1, 3) := by decide +kernel
theorem dX7_dryCells_149 : decode cX7_dryCells 149 = .ok (.goto (-128), 3) := by decide +kernel
theorem dX7_dryCells_152 : decode cX7_dryCells 152 = .ok (.return_, 1) := by decide +kernel
theorem dX7_endDay_0 : decode cX7_endDay 0 = .ok (.aload_n 0, 1) := by decide +kernel
theorem dX7_endDay_1 : decode cX7_endDay 1 = .ok (.getfield 29, 3) := by decide +kernel
theorem dX7_endDay_4 : decode cX7_endDay 4 = .ok (.getfield 182, 3) := by decide +kernel
theorem dX7_endDay_7 : decode cX7_endDay 7 = .ok (.getfield 49, 3) := by decide +kernel
theorem dX7_endDay_10 : decode cX7_endDay 10 = .ok (.bipush 6, 2) := by decide +kernel
theorem dX7_endDay_12 : decode cX7_endDay 12 = .ok (.aload_n 1, 1) := by decide +kernel
theorem dX7_endDay_13 : decode cX7_endDay 13 = .ok (.getfield 140, 3) := by decide +kernel
theorem dX7_endDay_16 : decode cX7_endDay 16 = .ok (.iastore, 1) := by decide +kernel
theorem dX7_endDay_17 : decode cX7_endDay 17 = .ok (.aload_n 1, 1) := by decide +kernel
theorem dX7_endDay_18 : decode cX7_endDay 18 = .ok (.sipush 9999, 3) := by decide +kernel
theorem dX7_endDay_21 : decode cX7_endDay 21 = .ok (.aload_n 1, 1) := by decide +kernel
theorem dX7_endDay_22 : decode cX7_endDay 22 = .ok (.getfield 76, 3) := by decide +kernel
theorem dX7_endDay_25 : decode cX7_endDay 25 = .ok (.aload_n 0, 1) := by decide +kernel
theorem dX7_endDay_26 : decode cX7_endDay 26 = .ok (.getfield 29, 3) := by decide +kernel
theorem dX7_endDay_29 : decode cX7_endDay 29 = .ok (.getfield 182, 3) := by decide +kernel
theorem dX7_endDay_32 : decode cX7_endDay 32 = .ok (.invokevirtual 57, 3) := by decide +kernel
theorem dX7_endDay_35 : decode cX7_endDay 35 = .ok (.sipush 999, 3) := by decide +kernel
theorem dX7_endDay_38 : decode cX7_endDay 38 = .ok (.invokestatic 61, 3) := by decide +kernel
theorem dX7_endDay_41 : decode cX7_endDay 41 = .ok (.iadd, 1) := by decide +kernel
theorem dX7_endDay_42 : decode cX7_endDay 42 = .ok (.invokestatic 99, 3) := by decide +kernel
theorem dX7_endDay_45 : decode cX7_endDay 45 = .ok (.putfield 76, 3) := by decide +kernel
theorem dX7_endDay_48 : decode cX7_endDay 48 = .ok (.aload_n 1, 1) := by decide +kernel
theorem dX7_endDay_49 : decode cX7_endDay 49 = .ok (.dup, 1) := by decide +kernel
theorem dX7_endDay_50 : decode cX7_endDay 50 = .ok (.getfield 140, 3) := by decide +kernel
theorem dX7_endDay_53 : decode cX7_endDay 53 = .ok (.iconst 1, 1) := by decide +kernel
theorem dX7_endDay_54 : decode cX7_endDay 54 = .ok (.iadd, 1) := by decide +kernel
theorem dX7_endDay_55 : decode cX7_endDay 55 = .ok (.putfield 140, 3) := by decide +kernel
theorem dX7_endDay_58 : decode cX7_endDay 58 = .ok (.return_, 1) := by decide +kernel
theorem dX8_clear_0 : decode cX8_clear 0 = .ok (.aload_n 0, 1) := by decide +kernel
theorem dX8_clear_1 : decode cX8_clear 1 = .ok (.iconst 0, 1) := by decide +kernel
theorem dX8_clear_2 : decode cX8_clear 2 = .ok (.putfield 21, 3) := by decide +kernel
theorem dX8_clear_5 : decode cX8_clear 5 = .ok (.return_, 1) := by decide +kernel
theorem dX8_add_0 : decode cX8_add 0 = .ok (.aload_n 0, 1) := by decide +kernel
theorem dX8_add_1 : decode cX8_add 1 = .ok (.getfield 21, 3) := by decide +kernel
theorem dX8_add_4 : decode cX8_add 4 = .ok (.bipush 20, 2) := by decide +kernel
theorem dX8_add_6 : decode cX8_add 6 = .ok (.if_icmp .lt 5, 3) := by decide +kernel
theorem dX8_add_9 : decode cX8_add 9 = .ok (.iconst (-1), 1) := by decide +kernel
theorem dX8_add_10 : decode cX8_add 10 = .ok (.ireturn, 1) := by decide +kernel
theorem dX8_add_11 : decode cX8_add 11 = .ok (.aload_n 0, 1) := by decide +kernel
theorem dX8_add_12 : decode cX8_add 12 = .ok (.getfield 11, 3) := by decide +kernel
theorem dX8_add_15 : decode cX8_add 15 = .ok (.aload_n 0, 1) := by decide +kernel
theorem dX8_add_16 : decode cX8_add 16 = .ok (.getfield 21, 3) := by decide +kernel
theorem dX8_add_19 : decode cX8_add 19 = .ok (.iload_n 1, 1) := by decide +kernel
theorem dX8_add_20 : decode cX8_add 20 = .ok (.iastore, 1) := by decide +kernel
theorem dX8_add_21 : decode cX8_add 21 = .ok (.aload_n 0, 1) := by decide +kernel
theorem dX8_add_22 : decode cX8_add 22 = .ok (.getfield 15, 3) := by decide +kernel
theorem dX8_add_25 : decode cX8_add 25 = .ok (.aload_n 0, 1) := by decide +kernel
theorem dX8_add_26 : decode cX8_add 26 = .ok (.getfield 21, 3) := by decide +kernel
theorem dX8_add_29 : decode cX8_add 29 = .ok (.iload_n 2, 1) := by decide +kernel
theorem dX8_add_30 : decode cX8_add 30 = .ok (.iastore, 1) := by decide +kernel
theorem dX8_add_31 : decode cX8_add 31 = .ok (.aload_n 0, 1) := by decide +kernel
theorem dX8_add_32 : decode cX8_add 32 = .ok (.getfield 18, 3) := by decide +kernel
theorem dX8_add_35 : decode cX8_add 35 = .ok (.aload_n 0, 1) := by decide +kernel
theorem dX8_add_36 : decode cX8_add 36 = .ok (.getfield 21, 3) := by decide +kernel
theorem dX8_add_39 : decode cX8_add 39 = .ok (.iload_n 3, 1) := by decide +kernel
theorem dX8_add_40 : decode cX8_add 40 = .ok (.iastore, 1) := by decide +kernel
theorem dX8_add_41 : decode cX8_add 41 = .ok (.aload_n 0, 1) := by decide +kernel
theorem dX8_add_42 : decode cX8_add 42 = .ok (.dup, 1) := by decide +kernel
theorem dX8_add_43 : decode cX8_add 43 = .ok (.getfield 21, 3) := by decide +kernel
theorem dX8_add_46 : decode cX8_add 46 = .ok (.iconst 1, 1) := by decide +kernel
theorem dX8_add_47 : decode cX8_add 47 = .ok (.iadd, 1) := by decide +kernel
theorem dX8_add_48 : decode cX8_add 48 = .ok (.putfield 21, 3) := by decide +kernel
theorem dX8_add_51 : decode cX8_add 51 = .ok (.aload_n 0, 1) := by decide +kernel
theorem dX8_add_52 : decode cX8_add 52 = .ok (.getfield 21, 3) := by decide +kernel
theorem dX8_add_55 : decode cX8_add 55 = .ok (.iconst 1, 1) := by decide +kernel
theorem dX8_add_56 : decode cX8_add 56 = .ok (.isub, 1) := by decide +kernel
theorem dX8_add_57 : decode cX8_add 57 = .ok (.ireturn, 1) := by decide +kernel
theorem dX8_knows_0 : decode cX8_knows 0 = .ok (.iload_n 1, 1) := by decide +kernel
theorem dX8_knows_1 : decode cX8_knows 1 = .ok (.ifCond .lt 15, 3) := by decide +kernel
theorem dX8_knows_4 : decode cX8_knows 4 = .ok (.iload_n 1, 1) := by decide +kernel
theorem dX8_knows_5 : decode cX8_knows 5 = .ok (.aload_n 0, 1) := by decide +kernel
theorem dX8_knows_6 : decode cX8_knows 6 = .ok (.getfield 21, 3) := by decide +kernel
theorem dX8_knows_9 : decode cX8_knows 9 = .ok (.if_icmp .gt 7, 3) := by decide +kernel
theorem dX8_knows_12 : decode cX8_knows 12 = .ok (.iconst 1, 1) := by decide +kernel
theorem dX8_knows_13 : decode cX8_knows 13 = .ok (.goto 4, 3) := by decide +kernel
theorem dX8_knows_16 : decode cX8_knows 16 = .ok (.iconst 0, 1) := by decide +kernel
theorem dX8_knows_17 : decode cX8_knows 17 = .ok (.ireturn, 1) := by decide +kernel
theorem dX8_beginWays_0 : decode cX8_beginWays 0 = .ok (.aload_n 0, 1) := by decide +kernel
theorem dX8_beginWays_1 : decode cX8_beginWays 1 = .ok (.iload_n 1, 1) := by decide +kernel
theorem dX8_beginWays_2 : decode cX8_beginWays 2 = .ok (.putfield 25, 3) := by decide +kernel
theorem dX8_beginWays_5 : decode cX8_beginWays 5 = .ok (.aload_n 0, 1) := by decide +kernel
theorem dX8_beginWays_6 : decode cX8_beginWays 6 = .ok (.iload_n 2, 1) := by decide +kernel
theorem dX8_beginWays_7 : decode cX8_beginWays 7 = .ok (.putfield 28, 3) := by decide +kernel
theorem dX8_beginWays_10 : decode cX8_beginWays 10 = .ok (.aload_n 0, 1) := by decide +kernel
theorem dX8_beginWays_11 : decode cX8_beginWays 11 = .ok (.iconst 0, 1) := by decide +kernel
theorem dX8_beginWays_12 : decode cX8_beginWays 12 = .ok (.putfield 39, 3) := by decide +kernel
theorem dX8_beginWays_15 : decode cX8_beginWays 15 = .ok (.return_, 1) := by decide +kernel
theorem dX8_keepPiece_0 : decode cX8_keepPiece 0 = .ok (.iload_n 1, 1) := by decide +kernel
theorem dX8_keepPiece_1 : decode cX8_keepPiece 1 = .ok (.ifCond .lt 29, 3) := by decide +kernel
theorem dX8_keepPiece_4 : decode cX8_keepPiece 4 = .ok (.iload_n 1, 1) := by decide +kernel
theorem dX8_keepPiece_5 : decode cX8_keepPiece 5 = .ok (.iconst 4, 1) := by decide +kernel
theorem dX8_keepPiece_6 : decode cX8_keepPiece 6 = .ok (.if_icmp .ge 24, 3) := by decide +kernel
theorem dX8_keepPiece_9 : decode cX8_keepPiece 9 = .ok (.aload_n 2, 1) := by decide +kernel
theorem dX8_keepPiece_10 : decode cX8_keepPiece 10 = .ok (.arraylength, 1) := by decide +kernel
theorem dX8_keepPiece_11 : decode cX8_keepPiece 11 = .ok (.bipush 48, 2) := by decide +kernel
theorem dX8_keepPiece_13 : decode cX8_keepPiece 13 = .ok (.if_icmp .lt 17, 3) := by decide +kernel
theorem dX8_keepPiece_16 : decode cX8_keepPiece 16 = .ok (.aload_n 2, 1) := by decide +kernel
theorem dX8_keepPiece_17 : decode cX8_keepPiece 17 = .ok (.iconst 0, 1) := by decide +kernel
theorem dX8_keepPiece_18 : decode cX8_keepPiece 18 = .ok (.aload_n 0, 1) := by decide +kernel
theorem dX8_keepPiece_19 : decode cX8_keepPiece 19 = .ok (.getfield 33, 3) := by decide +kernel
theorem dX8_keepPiece_22 : decode cX8_keepPiece 22 = .ok (.iload_n 1, 1) := by decide +kernel
theorem dX8_keepPiece_23 : decode cX8_keepPiece 23 = .ok (.aaload, 1) := by decide +kernel
theorem dX8_keepPiece_24 : decode cX8_keepPiece 24 = .ok (.iconst 0, 1) := by decide +kernel
theorem dX8_keepPiece_25 : decode cX8_keepPiece 25 = .ok (.bipush 48, 2) := by decide +kernel
theorem dX8_keepPiece_27 : decode cX8_keepPiece 27 = .ok (.invokestatic 45, 3) := by decide +kernel
theorem dX8_keepPiece_30 : decode cX8_keepPiece 30 = .ok (.return_, 1) := by decide +kernel
theorem dX8_addWays_0 : decode cX8_addWays 0 = .ok (.iconst 0, 1) := by decide +kernel
theorem dX8_addWays_1 : decode cX8_addWays 1 = .ok (.istore 5, 2) := by decide +kernel
theorem dX8_addWays_3 : decode cX8_addWays 3 = .ok (.iload 5, 2) := by decide +kernel
theorem dX8_addWays_5 : decode cX8_addWays 5 = .ok (.aload_n 0, 1) := by decide +kernel
theorem dX8_addWays_6 : decode cX8_addWays 6 = .ok (.getfield 28, 3) := by decide +kernel
theorem dX8_addWays_9 : decode cX8_addWays 9 = .ok (.iadd, 1) := by decide +kernel
theorem dX8_addWays_10 : decode cX8_addWays 10 = .ok (.iload 4, 2) := by decide +kernel
theorem dX8_addWays_12 : decode cX8_addWays 12 = .ok (.if_icmp .gt 87, 3) := by decide +kernel
theorem dX8_addWays_15 : decode cX8_addWays 15 = .ok (.iconst 0, 1) := by decide +kernel
theorem dX8_addWays_16 : decode cX8_addWays 16 = .ok (.istore 6, 2) := by decide +kernel
theorem dX8_addWays_18 : decode cX8_addWays 18 = .ok (.iload 6, 2) := by decide +kernel
theorem dX8_addWays_20 : decode cX8_addWays 20 = .ok (.aload_n 0, 1) := by decide +kernel
theorem dX8_addWays_21 : decode cX8_addWays 21 = .ok (.getfield 25, 3) := by decide +kernel
theorem dX8_addWays_24 : decode cX8_addWays 24 = .ok (.iadd, 1) := by decide +kernel
theorem dX8_addWays_25 : decode cX8_addWays 25 = .ok (.iload_n 3, 1) := by decide +kernel
theorem dX8_addWays_26 : decode cX8_addWays 26 = .ok (.if_icmp .gt 67, 3) := by decide +kernel
theorem dX8_addWays_29 : decode cX8_addWays 29 = .ok (.bipush 100, 2) := by decide +kernel
theorem dX8_addWays_31 : decode cX8_addWays 31 = .ok (.iload_n 1, 1) := by decide +kernel
theorem dX8_addWays_32 : decode cX8_addWays 32 = .ok (.imul, 1) := by decide +kernel
theorem dX8_addWays_33 : decode cX8_addWays 33 = .ok (.bipush 10, 2) := by decide +kernel
theorem dX8_addWays_35 : decode cX8_addWays 35 = .ok (.iload 5, 2) := by decide +kernel
theorem dX8_addWays_37 : decode cX8_addWays 37 = .ok (.imul, 1) := by decide +kernel
theorem dX8_addWays_38 : decode cX8_addWays 38 = .ok (.iadd, 1) := by decide +kernel
theorem dX8_addWays_39 : decode cX8_addWays 39 = .ok (.iload 6, 2) := by decide +kernel
theorem dX8_addWays_41 : decode cX8_addWays 41 = .ok (.iadd, 1) := by decide +kernel
theorem dX8_addWays_42 : decode cX8_addWays 42 = .ok (.istore 7, 2) := by decide +kernel
theorem dX8_addWays_44 : decode cX8_addWays 44 = .ok (.aload_n 0, 1) := by decide +kernel
theorem dX8_addWays_45 : decode cX8_addWays 45 = .ok (.iload 7, 2) := by decide +kernel
theorem dX8_addWays_47 : decode cX8_addWays 47 = .ok (.iload_n 2, 1) := by decide +kernel
theorem dX8_addWays_48 : decode cX8_addWays 48 = .ok (.invokevirtual 51, 3) := by decide +kernel
theorem dX8_addWays_51 : decode cX8_addWays 51 = .ok (.ifCond .eq 36, 3) := by decide +kernel
theorem dX8_addWays_54 : decode cX8_addWays 54 = .ok (.aload_n 0, 1) := by decide +kernel
theorem dX8_addWays_55 : decode cX8_addWays 55 = .ok (.getfield 39, 3) := by decide +kernel
theorem dX8_addWays_58 : decode cX8_addWays 58 = .ok (.aload_n 0, 1) := by decide +kernel
theorem dX8_addWays_59 : decode cX8_addWays 59 = .ok (.getfield 36, 3) := by decide +kernel
theorem dX8_addWays_62 : decode cX8_addWays 62 = .ok (.arraylength, 1) := by decide +kernel
theorem dX8_addWays_63 : decode cX8_addWays 63 = .ok (.if_icmp .ge 24, 3) := by decide +kernel
theorem dX8_addWays_66 : decode cX8_addWays 66 = .ok (.aload_n 0, 1) := by decide +kernel
theorem dX8_addWays_67 : decode cX8_addWays 67 = .ok (.getfield 36, 3) := by decide +kernel
theorem dX8_addWays_70 : decode cX8_addWays 70 = .ok (.aload_n 0, 1) := by decide +kernel
theorem dX8_addWays_71 : decode cX8_addWays 71 = .ok (.getfield 39, 3) := by decide +kernel
theorem dX8_addWays_74 : decode cX8_addWays 74 = .ok (.iload 7, 2) := by decide +kernel
theorem dX8_addWays_76 : decode cX8_addWays 76 = .ok (.iastore, 1) := by decide +kernel
theorem dX8_addWays_77 : decode cX8_addWays 77 = .ok (.aload_n 0, 1) := by decide +kernel
theorem dX8_addWays_78 : decode cX8_addWays 78 = .ok (.dup, 1) := by decide +kernel
theorem dX8_addWays_79 : decode cX8_addWays 79 = .ok (.getfield 39, 3) := by decide +kernel
theorem dX8_addWays_82 : decode cX8_addWays 82 = .ok (.iconst 1, 1) := by decide +kernel
theorem dX8_addWays_83 : decode cX8_addWays 83 = .ok (.iadd, 1) := by decide +kernel
theorem dX8_addWays_84 : decode cX8_addWays 84 = .ok (.putfield 39, 3) := by decide +kernel
theorem dX8_addWays_87 : decode cX8_addWays 87 = .ok (.iinc 6 1, 3) := by decide +kernel
theorem dX8_addWays_90 : decode cX8_addWays 90 = .ok (.goto (-72), 3) := by decide +kernel
theorem dX8_addWays_93 : decode cX8_addWays 93 = .ok (.iinc 5 1, 3) := by decide +kernel
theorem dX8_addWays_96 : decode cX8_addWays 96 = .ok (.goto (-93), 3) := by decide +kernel
theorem dX8_addWays_99 : decode cX8_addWays 99 = .ok (.return_, 1) := by decide +kernel
theorem dX8_agreesWithKnown_0 : decode cX8_agreesWithKnown 0 = .ok (.iconst 0, 1) := by decide +kernel
theorem dX8_agreesWithKnown_1 : decode cX8_agreesWithKnown 1 = .ok (.istore_n 3, 1) := by decide +kernel
theorem dX8_agreesWithKnown_2 : decode cX8_agreesWithKnown 2 = .ok (.iload_n 3, 1) := by decide +kernel
theorem dX8_agreesWithKnown_3 : decode cX8_agreesWithKnown 3 = .ok (.iload_n 2, 1) := by decide +kernel
theorem dX8_agreesWithKnown_4 : decode cX8_agreesWithKnown 4 = .ok (.if_icmp .ge 37, 3) := by decide +kernel
theorem dX8_agreesWithKnown_7 : decode cX8_agreesWithKnown 7 = .ok (.aload_n 0, 1) := by decide +kernel
theorem dX8_agreesWithKnown_8 : decode cX8_agreesWithKnown 8 = .ok (.iload_n 1, 1) := by decide +kernel
theorem dX8_agreesWithKnown_9 : decode cX8_agreesWithKnown 9 = .ok (.aload_n 0, 1) := by decide +kernel
theorem dX8_agreesWithKnown_10 : decode cX8_agreesWithKnown 10 = .ok (.getfield 11, 3) := by decide +kernel
theorem dX8_agreesWithKnown_13 : decode cX8_agreesWithKnown 13 = .ok (.iload_n 3, 1) := by decide +kernel
theorem dX8_agreesWithKnown_14 : decode cX8_agreesWithKnown 14 = .ok (.iaload, 1) := by decide +kernel
theorem dX8_agreesWithKnown_15 : decode cX8_agreesWithKnown 15 = .ok (.aload_n 0, 1) := by decide +kernel
theorem dX8_agreesWithKnown_16 : decode cX8_agreesWithKnown 16 = .ok (.getfield 15, 3) := by decide +kernel
theorem dX8_agreesWithKnown_19 : decode cX8_agreesWithKnown 19 = .ok (.iload_n 3, 1) := by decide +kernel
theorem dX8_agreesWithKnown_20 : decode cX8_agreesWithKnown 20 = .ok (.iaload, 1) := by decide +kernel
theorem dX8_agreesWithKnown_21 : decode cX8_agreesWithKnown 21 = .ok (.invokevirtual 55, 3) := by decide +kernel
theorem dX8_agreesWithKnown_24 : decode cX8_agreesWithKnown 24 = .ok (.aload_n 0, 1) := by decide +kernel
theorem dX8_agreesWithKnown_25 : decode cX8_agreesWithKnown 25 = .ok (.getfield 18, 3) := by decide +kernel
theorem dX8_agreesWithKnown_28 : decode cX8_agreesWithKnown 28 = .ok (.iload_n 3, 1) := by decide +kernel
theorem dX8_agreesWithKnown_29 : decode cX8_agreesWithKnown 29 = .ok (.iaload, 1) := by decide +kernel
theorem dX8_agreesWithKnown_30 : decode cX8_agreesWithKnown 30 = .ok (.if_icmp .eq 5, 3) := by decide +kernel
theorem dX8_agreesWithKnown_33 : decode cX8_agreesWithKnown 33 = .ok (.iconst 0, 1) := by decide +kernel
theorem dX8_agreesWithKnown_34 : decode cX8_agreesWithKnown 34 = .ok (.ireturn, 1) := by decide +kernel
theorem dX8_agreesWithKnown_35 : decode cX8_agreesWithKnown 35 = .ok (.iinc 3 1, 3) := by decide +kernel
theorem dX8_agreesWithKnown_38 : decode cX8_agreesWithKnown 38 = .ok (.goto (-36), 3) := by decide +kernel
theorem dX8_agreesWithKnown_41 : decode cX8_agreesWithKnown 41 = .ok (.iconst 1, 1) := by decide +kernel
theorem dX8_agreesWithKnown_42 : decode cX8_agreesWithKnown 42 = .ok (.ireturn, 1) := by decide +kernel
theorem dX8_waterBy_0 : decode cX8_waterBy 0 = .ok (.iload_n 2, 1) := by decide +kernel
theorem dX8_waterBy_1 : decode cX8_waterBy 1 = .ok (.iload_n 1, 1) := by decide +kernel
theorem dX8_waterBy_2 : decode cX8_waterBy 2 = .ok (.bipush 10, 2) := by decide +kernel
theorem dX8_waterBy_4 : decode cX8_waterBy 4 = .ok (.irem, 1) := by decide +kernel
theorem dX8_waterBy_5 : decode cX8_waterBy 5 = .ok (.isub, 1) := by decide +kernel
theorem dX8_waterBy_6 : decode cX8_waterBy 6 = .ok (.istore 4, 2) := by decide +kernel
theorem dX8_waterBy_8 : decode cX8_waterBy 8 = .ok (.iload_n 3, 1) := by decide +kernel
theorem dX8_waterBy_9 : decode cX8_waterBy 9 = .ok (.iload_n 1, 1) := by decide +kernel
theorem dX8_waterBy_10 : decode cX8_waterBy 10 = .ok (.bipush 10, 2) := by decide +kernel
theorem dX8_waterBy_12 : decode cX8_waterBy 12 = .ok (.idiv, 1) := by decide +kernel
theorem dX8_waterBy_13 : decode cX8_waterBy 13 = .ok (.bipush 10, 2) := by decide +kernel
theorem dX8_waterBy_15 : decode cX8_waterBy 15 = .ok (.irem, 1) := by decide +kernel
theorem dX8_waterBy_16 : decode cX8_waterBy 16 = .ok (.isub, 1) := by decide +kernel
theorem dX8_waterBy_17 : decode cX8_waterBy 17 = .ok (.istore 5, 2) := by decide +kernel
theorem dX8_waterBy_19 : decode cX8_waterBy 19 = .ok (.iload 4, 2) := by decide +kernel
theorem dX8_waterBy_21 : decode cX8_waterBy 21 = .ok (.ifCond .lt 26, 3) := by decide +kernel
theorem dX8_waterBy_24 : decode cX8_waterBy 24 = .ok (.iload 4, 2) := by decide +kernel
theorem dX8_waterBy_26 : decode cX8_waterBy 26 = .ok (.aload_n 0, 1) := by decide +kernel
theorem dX8_waterBy_27 : decode cX8_waterBy 27 = .ok (.getfield 25, 3) := by decide +kernel
theorem dX8_waterBy_30 : decode cX8_waterBy 30 = .ok (.if_icmp .ge 17, 3) := by decide +kernel
theorem dX8_waterBy_33 : decode cX8_waterBy 33 = .ok (.iload 5, 2) := by decide +kernel
theorem dX8_waterBy_35 : decode cX8_waterBy 35 = .ok (.ifCond .lt 12, 3) := by decide +kernel
theorem dX8_waterBy_38 : decode cX8_waterBy 38 = .ok (.iload 5, 2) := by decide +kernel
theorem dX8_waterBy_40 : decode cX8_waterBy 40 = .ok (.aload_n 0, 1) := by decide +kernel
theorem dX8_waterBy_41 : decode cX8_waterBy 41 = .ok (.getfield 28, 3) := by decide +kernel
theorem dX8_waterBy_44 : decode cX8_waterBy 44 = .ok (.if_icmp .lt 5, 3) := by decide +kernel
theorem dX8_waterBy_47 : decode cX8_waterBy 47 = .ok (.iconst 0, 1) := by decide +kernel
theorem dX8_waterBy_48 : decode cX8_waterBy 48 = .ok (.ireturn, 1) := by decide +kernel
theorem dX8_waterBy_49 : decode cX8_waterBy 49 = .ok (.aload_n 0, 1) := by decide +kernel
theorem dX8_waterBy_50 : decode cX8_waterBy 50 = .ok (.getfield 33, 3) := by decide +kernel
theorem dX8_waterBy_53 : decode cX8_waterBy 53 = .ok (.iload_n 1, 1) := by decide +kernel
theorem dX8_waterBy_54 : decode cX8_waterBy 54 = .ok (.bipush 100, 2) := by decide +kernel
theorem dX8_waterBy_56 : decode cX8_waterBy 56 = .ok (.idiv, 1) := by decide +kernel
theorem dX8_waterBy_57 : decode cX8_waterBy 57 = .ok (.aaload, 1) := by decide +kernel
theorem dX8_waterBy_58 : decode cX8_waterBy 58 = .ok (.iload 5, 2) := by decide +kernel
theorem dX8_waterBy_60 : decode cX8_waterBy 60 = .ok (.aload_n 0, 1) := by decide +kernel
theorem dX8_waterBy_61 : decode cX8_waterBy 61 = .ok (.getfield 25, 3) := by decide +kernel
theorem dX8_waterBy_64 : decode cX8_waterBy 64 = .ok (.imul, 1) := by decide +kernel
theorem dX8_waterBy_65 : decode cX8_waterBy 65 = .ok (.iload 4, 2) := by decide +kernel
theorem dX8_waterBy_67 : decode cX8_waterBy 67 = .ok (.iadd, 1) := by decide +kernel
theorem dX8_waterBy_68 : decode cX8_waterBy 68 = .ok (.iaload, 1) := by decide +kernel
theorem dX8_waterBy_69 : decode cX8_waterBy 69 = .ok (.ireturn, 1) := by decide +kernel
theorem dX8_leftAtWorst_0 : decode cX8_leftAtWorst 0 = .ok (.aload_n 0, 1) := by decide +kernel
theorem dX8_leftAtWorst_1 : decode cX8_leftAtWorst 1 = .ok (.getfield 42, 3) := by decide +kernel
theorem dX8_leftAtWorst_4 : decode cX8_leftAtWorst 4 = .ok (.iconst 0, 1) := by decide +kernel
theorem dX8_leftAtWorst_5 : decode cX8_leftAtWorst 5 = .ok (.invokestatic 59, 3) := by decide +kernel
theorem dX8_leftAtWorst_8 : decode cX8_leftAtWorst 8 = .ok (.iconst 0, 1) := by decide +kernel
theorem dX8_leftAtWorst_9 : decode cX8_leftAtWorst 9 = .ok (.istore_n 3, 1) := by decide +kernel
theorem dX8_leftAtWorst_10 : decode cX8_leftAtWorst 10 = .ok (.iconst 0, 1) := by decide +kernel
theorem dX8_leftAtWorst_11 : decode cX8_leftAtWorst 11 = .ok (.istore 4, 2) := by decide +kernel
theorem dX8_leftAtWorst_13 : decode cX8_leftAtWorst 13 = .ok (.iload 4, 2) := by decide +kernel
theorem dX8_leftAtWorst_15 : decode cX8_leftAtWorst 15 = .ok (.aload_n 0, 1) := by decide +kernel
theorem dX8_leftAtWorst_16 : decode cX8_leftAtWorst 16 = .ok (.getfield 39, 3) := by decide +kernel
theorem dX8_leftAtWorst_19 : decode cX8_leftAtWorst 19 = .ok (.if_icmp .ge 59, 3) := by decide +kernel
theorem dX8_leftAtWorst_22 : decode cX8_leftAtWorst 22 = .ok (.aload_n 0, 1) := by decide +kernel
theorem dX8_leftAtWorst_23 : decode cX8_leftAtWorst 23 = .ok (.aload_n 0, 1) := by decide +kernel
theorem dX8_leftAtWorst_24 : decode cX8_leftAtWorst 24 = .ok (.getfield 36, 3) := by decide +kernel
theorem dX8_leftAtWorst_27 : decode cX8_leftAtWorst 27 = .ok (.iload 4, 2) := by decide +kernel
theorem dX8_leftAtWorst_29 : decode cX8_leftAtWorst 29 = .ok (.iaload, 1) := by decide +kernel
theorem dX8_leftAtWorst_30 : decode cX8_leftAtWorst 30 = .ok (.iload_n 1, 1) := by decide +kernel
theorem dX8_leftAtWorst_31 : decode cX8_leftAtWorst 31 = .ok (.iload_n 2, 1) := by decide +kernel
theorem dX8_leftAtWorst_32 : decode cX8_leftAtWorst 32 = .ok (.invokevirtual 55, 3) := by decide +kernel
theorem dX8_leftAtWorst_35 : decode cX8_leftAtWorst 35 = .ok (.istore 5, 2) := by decide +kernel
theorem dX8_leftAtWorst_37 : decode cX8_leftAtWorst 37 = .ok (.iload 5, 2) := by decide +kernel
theorem dX8_leftAtWorst_39 : decode cX8_leftAtWorst 39 = .ok (.ifCond .lt 33, 3) := by decide +kernel
theorem dX8_leftAtWorst_42 : decode cX8_leftAtWorst 42 = .ok (.iload 5, 2) := by decide +kernel
theorem dX8_leftAtWorst_44 : decode cX8_leftAtWorst 44 = .ok (.bipush 10, 2) := by decide +kernel
theorem dX8_leftAtWorst_46 : decode cX8_leftAtWorst 46 = .ok (.if_icmp .ge 26, 3) := by decide +kernel
theorem dX8_leftAtWorst_49 : decode cX8_leftAtWorst 49 = .ok (.aload_n 0, 1) := by decide +kernel
theorem dX8_leftAtWorst_50 : decode cX8_leftAtWorst 50 = .ok (.getfield 42, 3) := by decide +kernel
theorem dX8_leftAtWorst_53 : decode cX8_leftAtWorst 53 = .ok (.iload 5, 2) := by decide +kernel
theorem dX8_leftAtWorst_55 : decode cX8_leftAtWorst 55 = .ok (.dup2, 1) := by decide +kernel
theorem dX8_leftAtWorst_56 : decode cX8_leftAtWorst 56 = .ok (.iaload, 1) := by decide +kernel
theorem dX8_leftAtWorst_57 : decode cX8_leftAtWorst 57 = .ok (.iconst 1, 1) := by decide +kernel
theorem dX8_leftAtWorst_58 : decode cX8_leftAtWorst 58 = .ok (.iadd, 1) := by decide +kernel
theorem dX8_leftAtWorst_59 : decode cX8_leftAtWorst 59 = .ok (.iastore, 1) := by decide +kernel
theorem dX8_leftAtWorst_60 : decode cX8_leftAtWorst 60 = .ok (.iload_n 3, 1) := by decide +kernel
theorem dX8_leftAtWorst_61 : decode cX8_leftAtWorst 61 = .ok (.aload_n 0, 1) := by decide +kernel
theorem dX8_leftAtWorst_62 : decode cX8_leftAtWorst 62 = .ok (.getfield 42, 3) := by decide +kernel
theorem dX8_leftAtWorst_65 : decode cX8_leftAtWorst 65 = .ok (.iload 5, 2) := by decide +kernel
theorem dX8_leftAtWorst_67 : decode cX8_leftAtWorst 67 = .ok (.iaload, 1) := by decide +kernel
theorem dX8_leftAtWorst_68 : decode cX8_leftAtWorst 68 = .ok (.invokestatic 65, 3) := by decide +kernel
theorem dX8_leftAtWorst_71 : decode cX8_leftAtWorst 71 = .ok (.istore_n 3, 1) := by decide +kernel
theorem dX8_leftAtWorst_72 : decode cX8_leftAtWorst 72 = .ok (.iinc 4 1, 3) := by decide +kernel
theorem dX8_leftAtWorst_75 : decode cX8_leftAtWorst 75 = .ok (.goto (-62), 3) := by decide +kernel
theorem dX8_leftAtWorst_78 : decode cX8_leftAtWorst 78 = .ok (.iload_n 3, 1) := by decide +kernel
theorem dX8_leftAtWorst_79 : decode cX8_leftAtWorst 79 = .ok (.ireturn, 1) := by decide +kernel
