theorem dX10_cell_71 : decode cX10_cell 71 = .ok (.aload_n 0, 1) := by decide +kernel
theorem dX10_cell_72 : decode cX10_cell 72 = .ok (.iload 4, 2) := by decide +kernel
theorem dX10_cell_74 : decode cX10_cell 74 = .ok (.invokevirtual 369, 3) := by decide +kernel
theorem dX10_cell_77 : decode cX10_cell 77 = .ok (.ifCond .eq 7, 3) := by decide +kernel
theorem dX10_cell_80 : decode cX10_cell 80 = .ok (.iconst 1, 1) := by decide +kernel
theorem dX10_cell_81 : decode cX10_cell 81 = .ok (.goto 4, 3) := by decide +kernel
theorem dX10_cell_84 : decode cX10_cell 84 = .ok (.iconst 0, 1) := by decide +kernel
theorem dX10_cell_85 : decode cX10_cell 85 = .ok (.ireturn, 1) := by decide +kernel
theorem dX10_cell_86 : decode cX10_cell 86 = .ok (.aload_n 0, 1) := by decide +kernel
theorem dX10_cell_87 : decode cX10_cell 87 = .ok (.iload 4, 2) := by decide +kernel
theorem dX10_cell_89 : decode cX10_cell 89 = .ok (.invokevirtual 372, 3) := by decide +kernel
theorem dX10_cell_92 : decode cX10_cell 92 = .ok (.ifCond .eq 7, 3) := by decide +kernel
theorem dX10_cell_95 : decode cX10_cell 95 = .ok (.iconst 1, 1) := by decide +kernel
theorem dX10_cell_96 : decode cX10_cell 96 = .ok (.goto 4, 3) := by decide +kernel
theorem dX10_cell_99 : decode cX10_cell 99 = .ok (.iconst 0, 1) := by decide +kernel
theorem dX10_cell_100 : decode cX10_cell 100 = .ok (.ireturn, 1) := by decide +kernel
theorem dX10_cell_101 : decode cX10_cell 101 = .ok (.iconst (-1), 1) := by decide +kernel
theorem dX10_cell_102 : decode cX10_cell 102 = .ok (.ireturn, 1) := by decide +kernel
theorem dX10_cellsOf_0 : decode cX10_cellsOf 0 = .ok (.iconst 0, 1) := by decide +kernel
theorem dX10_cellsOf_1 : decode cX10_cellsOf 1 = .ok (.istore_n 2, 1) := by decide +kernel
theorem dX10_cellsOf_2 : decode cX10_cellsOf 2 = .ok (.iconst 0, 1) := by decide +kernel
theorem dX10_cellsOf_3 : decode cX10_cellsOf 3 = .ok (.istore_n 3, 1) := by decide +kernel
theorem dX10_cellsOf_4 : decode cX10_cellsOf 4 = .ok (.iload_n 3, 1) := by decide +kernel
theorem dX10_cellsOf_5 : decode cX10_cellsOf 5 = .ok (.bipush 48, 2) := by decide +kernel
theorem dX10_cellsOf_7 : decode cX10_cellsOf 7 = .ok (.if_icmp .ge 29, 3) := by decide +kernel
theorem dX10_cellsOf_10 : decode cX10_cellsOf 10 = .ok (.aload_n 0, 1) := by decide +kernel
theorem dX10_cellsOf_11 : decode cX10_cellsOf 11 = .ok (.iload_n 3, 1) := by decide +kernel
theorem dX10_cellsOf_12 : decode cX10_cellsOf 12 = .ok (.invokevirtual 366, 3) := by decide +kernel
theorem dX10_cellsOf_15 : decode cX10_cellsOf 15 = .ok (.ifCond .eq 15, 3) := by decide +kernel
theorem dX10_cellsOf_18 : decode cX10_cellsOf 18 = .ok (.aload_n 0, 1) := by decide +kernel
theorem dX10_cellsOf_19 : decode cX10_cellsOf 19 = .ok (.iload_n 3, 1) := by decide +kernel
theorem dX10_cellsOf_20 : decode cX10_cellsOf 20 = .ok (.invokevirtual 347, 3) := by decide +kernel
theorem dX10_cellsOf_23 : decode cX10_cellsOf 23 = .ok (.iload_n 1, 1) := by decide +kernel
theorem dX10_cellsOf_24 : decode cX10_cellsOf 24 = .ok (.if_icmp .ne 6, 3) := by decide +kernel
theorem dX10_cellsOf_27 : decode cX10_cellsOf 27 = .ok (.iinc 2 1, 3) := by decide +kernel
theorem dX10_cellsOf_30 : decode cX10_cellsOf 30 = .ok (.iinc 3 1, 3) := by decide +kernel
theorem dX10_cellsOf_33 : decode cX10_cellsOf 33 = .ok (.goto (-29), 3) := by decide +kernel
theorem dX10_cellsOf_36 : decode cX10_cellsOf 36 = .ok (.iload_n 2, 1) := by decide +kernel
theorem dX10_cellsOf_37 : decode cX10_cellsOf 37 = .ok (.ireturn, 1) := by decide +kernel
theorem dX10_needAll_0 : decode cX10_needAll 0 = .ok (.aload_n 0, 1) := by decide +kernel
theorem dX10_needAll_1 : decode cX10_needAll 1 = .ok (.iload_n 1, 1) := by decide +kernel
theorem dX10_needAll_2 : decode cX10_needAll 2 = .ok (.invokevirtual 384, 3) := by decide +kernel
theorem dX10_needAll_5 : decode cX10_needAll 5 = .ok (.aload_n 0, 1) := by decide +kernel
theorem dX10_needAll_6 : decode cX10_needAll 6 = .ok (.getfield 55, 3) := by decide +kernel
theorem dX10_needAll_9 : decode cX10_needAll 9 = .ok (.bipush 6, 2) := by decide +kernel
theorem dX10_needAll_11 : decode cX10_needAll 11 = .ok (.aload_n 0, 1) := by decide +kernel
theorem dX10_needAll_12 : decode cX10_needAll 12 = .ok (.getfield 239, 3) := by decide +kernel
theorem dX10_needAll_15 : decode cX10_needAll 15 = .ok (.imul, 1) := by decide +kernel
theorem dX10_needAll_16 : decode cX10_needAll 16 = .ok (.iload_n 1, 1) := by decide +kernel
theorem dX10_needAll_17 : decode cX10_needAll 17 = .ok (.iadd, 1) := by decide +kernel
theorem dX10_needAll_18 : decode cX10_needAll 18 = .ok (.iaload, 1) := by decide +kernel
theorem dX10_needAll_19 : decode cX10_needAll 19 = .ok (.imul, 1) := by decide +kernel
theorem dX10_needAll_20 : decode cX10_needAll 20 = .ok (.ireturn, 1) := by decide +kernel
theorem dX10_field_0 : decode cX10_field 0 = .ok (.aload_n 0, 1) := by decide +kernel
theorem dX10_field_1 : decode cX10_field 1 = .ok (.iload_n 1, 1) := by decide +kernel
theorem dX10_field_2 : decode cX10_field 2 = .ok (.invokevirtual 387, 3) := by decide +kernel
theorem dX10_field_5 : decode cX10_field 5 = .ok (.ifCond .ne 5, 3) := by decide +kernel
theorem dX10_field_8 : decode cX10_field 8 = .ok (.iconst (-1), 1) := by decide +kernel
theorem dX10_field_9 : decode cX10_field 9 = .ok (.ireturn, 1) := by decide +kernel
theorem dX10_field_10 : decode cX10_field 10 = .ok (.iload_n 2, 1) := by decide +kernel
theorem dX10_field_11 : decode cX10_field 11 = .ok (.tableswitch 114 0 4 #[33, 39, 88, 98, 108], 33) := by decide +kernel
theorem dX10_field_44 : decode cX10_field 44 = .ok (.aload_n 0, 1) := by decide +kernel
theorem dX10_field_45 : decode cX10_field 45 = .ok (.iload_n 1, 1) := by decide +kernel
theorem dX10_field_46 : decode cX10_field 46 = .ok (.invokevirtual 384, 3) := by decide +kernel
theorem dX10_field_49 : decode cX10_field 49 = .ok (.ireturn, 1) := by decide +kernel
theorem dX10_field_50 : decode cX10_field 50 = .ok (.iconst 0, 1) := by decide +kernel
theorem dX10_field_51 : decode cX10_field 51 = .ok (.istore_n 3, 1) := by decide +kernel
theorem dX10_field_52 : decode cX10_field 52 = .ok (.iconst 0, 1) := by decide +kernel
theorem dX10_field_53 : decode cX10_field 53 = .ok (.istore 4, 2) := by decide +kernel
theorem dX10_field_55 : decode cX10_field 55 = .ok (.iload 4, 2) := by decide +kernel
theorem dX10_field_57 : decode cX10_field 57 = .ok (.bipush 48, 2) := by decide +kernel
theorem dX10_field_59 : decode cX10_field 59 = .ok (.if_icmp .ge 38, 3) := by decide +kernel
theorem dX10_field_62 : decode cX10_field 62 = .ok (.aload_n 0, 1) := by decide +kernel
theorem dX10_field_63 : decode cX10_field 63 = .ok (.iload 4, 2) := by decide +kernel
theorem dX10_field_65 : decode cX10_field 65 = .ok (.invokevirtual 366, 3) := by decide +kernel
theorem dX10_field_68 : decode cX10_field 68 = .ok (.ifCond .eq 23, 3) := by decide +kernel
theorem dX10_field_71 : decode cX10_field 71 = .ok (.aload_n 0, 1) := by decide +kernel
theorem dX10_field_72 : decode cX10_field 72 = .ok (.iload 4, 2) := by decide +kernel
theorem dX10_field_74 : decode cX10_field 74 = .ok (.invokevirtual 347, 3) := by decide +kernel
theorem dX10_field_77 : decode cX10_field 77 = .ok (.iload_n 1, 1) := by decide +kernel
theorem dX10_field_78 : decode cX10_field 78 = .ok (.if_icmp .ne 13, 3) := by decide +kernel
theorem dX10_field_81 : decode cX10_field 81 = .ok (.iload_n 3, 1) := by decide +kernel
theorem dX10_field_82 : decode cX10_field 82 = .ok (.aload_n 0, 1) := by decide +kernel
theorem dX10_field_83 : decode cX10_field 83 = .ok (.getfield 116, 3) := by decide +kernel
theorem dX10_field_86 : decode cX10_field 86 = .ok (.iload 4, 2) := by decide +kernel
theorem dX10_field_88 : decode cX10_field 88 = .ok (.iaload, 1) := by decide +kernel
theorem dX10_field_89 : decode cX10_field 89 = .ok (.iadd, 1) := by decide +kernel
theorem dX10_field_90 : decode cX10_field 90 = .ok (.istore_n 3, 1) := by decide +kernel
theorem dX10_field_91 : decode cX10_field 91 = .ok (.iinc 4 1, 3) := by decide +kernel
theorem dX10_field_94 : decode cX10_field 94 = .ok (.goto (-39), 3) := by decide +kernel
theorem dX10_field_97 : decode cX10_field 97 = .ok (.iload_n 3, 1) := by decide +kernel
theorem dX10_field_98 : decode cX10_field 98 = .ok (.ireturn, 1) := by decide +kernel
theorem dX10_field_99 : decode cX10_field 99 = .ok (.aload_n 0, 1) := by decide +kernel
theorem dX10_field_100 : decode cX10_field 100 = .ok (.getfield 116, 3) := by decide +kernel
theorem dX10_field_103 : decode cX10_field 103 = .ok (.bipush 76, 2) := by decide +kernel
theorem dX10_field_105 : decode cX10_field 105 = .ok (.iload_n 1, 1) := by decide +kernel
theorem dX10_field_106 : decode cX10_field 106 = .ok (.iadd, 1) := by decide +kernel
theorem dX10_field_107 : decode cX10_field 107 = .ok (.iaload, 1) := by decide +kernel
theorem dX10_field_108 : decode cX10_field 108 = .ok (.ireturn, 1) := by decide +kernel
theorem dX10_field_109 : decode cX10_field 109 = .ok (.aload_n 0, 1) := by decide +kernel
theorem dX10_field_110 : decode cX10_field 110 = .ok (.getfield 116, 3) := by decide +kernel
theorem dX10_field_113 : decode cX10_field 113 = .ok (.bipush 82, 2) := by decide +kernel
theorem dX10_field_115 : decode cX10_field 115 = .ok (.iload_n 1, 1) := by decide +kernel
theorem dX10_field_116 : decode cX10_field 116 = .ok (.iadd, 1) := by decide +kernel
theorem dX10_field_117 : decode cX10_field 117 = .ok (.iaload, 1) := by decide +kernel
theorem dX10_field_118 : decode cX10_field 118 = .ok (.ireturn, 1) := by decide +kernel
theorem dX10_field_119 : decode cX10_field 119 = .ok (.aload_n 0, 1) := by decide +kernel
theorem dX10_field_120 : decode cX10_field 120 = .ok (.iload_n 1, 1) := by decide +kernel
theorem dX10_field_121 : decode cX10_field 121 = .ok (.invokevirtual 390, 3) := by decide +kernel
theorem dX10_field_124 : decode cX10_field 124 = .ok (.ireturn, 1) := by decide +kernel
theorem dX10_field_125 : decode cX10_field 125 = .ok (.iconst (-1), 1) := by decide +kernel
theorem dX10_field_126 : decode cX10_field 126 = .ok (.ireturn, 1) := by decide +kernel
theorem dX10_loom_0 : decode cX10_loom 0 = .ok (.aload_n 0, 1) := by decide +kernel
theorem dX10_loom_1 : decode cX10_loom 1 = .ok (.iload_n 1, 1) := by decide +kernel
theorem dX10_loom_2 : decode cX10_loom 2 = .ok (.invokevirtual 393, 3) := by decide +kernel
theorem dX10_loom_5 : decode cX10_loom 5 = .ok (.ifCond .ne 5, 3) := by decide +kernel
theorem dX10_loom_8 : decode cX10_loom 8 = .ok (.iconst (-1), 1) := by decide +kernel
theorem dX10_loom_9 : decode cX10_loom 9 = .ok (.ireturn, 1) := by decide +kernel
theorem dX10_loom_10 : decode cX10_loom 10 = .ok (.iload_n 2, 1) := by decide +kernel
theorem dX10_loom_11 : decode cX10_loom 11 = .ok (.tableswitch 114 0 7 #[45, 59, 69, 69, 69, 69, 100, 100], 45) := by decide +kernel
theorem dX10_loom_56 : decode cX10_loom 56 = .ok (.aload_n 0, 1) := by decide +kernel
theorem dX10_loom_57 : decode cX10_loom 57 = .ok (.getfield 64, 3) := by decide +kernel
theorem dX10_loom_60 : decode cX10_loom 60 = .ok (.iconst 4, 1) := by decide +kernel
theorem dX10_loom_61 : decode cX10_loom 61 = .ok (.aload_n 0, 1) := by decide +kernel
theorem dX10_loom_62 : decode cX10_loom 62 = .ok (.getfield 239, 3) := by decide +kernel
theorem dX10_loom_65 : decode cX10_loom 65 = .ok (.imul, 1) := by decide +kernel
theorem dX10_loom_66 : decode cX10_loom 66 = .ok (.iload_n 1, 1) := by decide +kernel
theorem dX10_loom_67 : decode cX10_loom 67 = .ok (.iadd, 1) := by decide +kernel
theorem dX10_loom_68 : decode cX10_loom 68 = .ok (.iaload, 1) := by decide +kernel
theorem dX10_loom_69 : decode cX10_loom 69 = .ok (.ireturn, 1) := by decide +kernel
theorem dX10_loom_70 : decode cX10_loom 70 = .ok (.aload_n 0, 1) := by decide +kernel
theorem dX10_loom_71 : decode cX10_loom 71 = .ok (.getfield 116, 3) := by decide +kernel
theorem dX10_loom_74 : decode cX10_loom 74 = .ok (.bipush 48, 2) := by decide +kernel
theorem dX10_loom_76 : decode cX10_loom 76 = .ok (.iload_n 1, 1) := by decide +kernel
theorem dX10_loom_77 : decode cX10_loom 77 = .ok (.iadd, 1) := by decide +kernel
theorem dX10_loom_78 : decode cX10_loom 78 = .ok (.iaload, 1) := by decide +kernel
theorem dX10_loom_79 : decode cX10_loom 79 = .ok (.ireturn, 1) := by decide +kernel
theorem dX10_loom_80 : decode cX10_loom 80 = .ok (.aload_n 0, 1) := by decide +kernel
theorem dX10_loom_81 : decode cX10_loom 81 = .ok (.getfield 116, 3) := by decide +kernel
theorem dX10_loom_84 : decode cX10_loom 84 = .ok (.bipush 52, 2) := by decide +kernel
theorem dX10_loom_86 : decode cX10_loom 86 = .ok (.iload_n 1, 1) := by decide +kernel
theorem dX10_loom_87 : decode cX10_loom 87 = .ok (.iadd, 1) := by decide +kernel
theorem dX10_loom_88 : decode cX10_loom 88 = .ok (.iaload, 1) := by decide +kernel
theorem dX10_loom_89 : decode cX10_loom 89 = .ok (.ifCond .ne 8, 3) := by decide +kernel
theorem dX10_loom_92 : decode cX10_loom 92 = .ok (.bipush (-2), 2) := by decide +kernel
theorem dX10_loom_94 : decode cX10_loom 94 = .ok (.goto 16, 3) := by decide +kernel
theorem dX10_loom_97 : decode cX10_loom 97 = .ok (.aload_n 0, 1) := by decide +kernel
theorem dX10_loom_98 : decode cX10_loom 98 = .ok (.getfield 116, 3) := by decide +kernel
theorem dX10_loom_101 : decode cX10_loom 101 = .ok (.bipush 44, 2) := by decide +kernel
theorem dX10_loom_103 : decode cX10_loom 103 = .ok (.iconst 4, 1) := by decide +kernel
theorem dX10_loom_104 : decode cX10_loom 104 = .ok (.iload_n 2, 1) := by decide +kernel
theorem dX10_loom_105 : decode cX10_loom 105 = .ok (.imul, 1) := by decide +kernel
theorem dX10_loom_106 : decode cX10_loom 106 = .ok (.iadd, 1) := by decide +kernel
theorem dX10_loom_107 : decode cX10_loom 107 = .ok (.iload_n 1, 1) := by decide +kernel
theorem dX10_loom_108 : decode cX10_loom 108 = .ok (.iadd, 1) := by decide +kernel
theorem dX10_loom_109 : decode cX10_loom 109 = .ok (.iaload, 1) := by decide +kernel
theorem dX10_loom_110 : decode cX10_loom 110 = .ok (.ireturn, 1) := by decide +kernel
theorem dX10_loom_111 : decode cX10_loom 111 = .ok (.aload_n 0, 1) := by decide +kernel
theorem dX10_loom_112 : decode cX10_loom 112 = .ok (.getfield 116, 3) := by decide +kernel
theorem dX10_loom_115 : decode cX10_loom 115 = .ok (.bipush 44, 2) := by decide +kernel
theorem dX10_loom_117 : decode cX10_loom 117 = .ok (.iconst 4, 1) := by decide +kernel
theorem dX10_loom_118 : decode cX10_loom 118 = .ok (.iload_n 2, 1) := by decide +kernel
theorem dX10_loom_119 : decode cX10_loom 119 = .ok (.imul, 1) := by decide +kernel
theorem dX10_loom_120 : decode cX10_loom 120 = .ok (.iadd, 1) := by decide +kernel
theorem dX10_loom_121 : decode cX10_loom 121 = .ok (.iload_n 1, 1) := by decide +kernel
theorem dX10_loom_122 : decode cX10_loom 122 = .ok (.iadd, 1) := by decide +kernel
theorem dX10_loom_123 : decode cX10_loom 123 = .ok (.iaload, 1) := by decide +kernel
theorem dX10_loom_124 : decode cX10_loom 124 = .ok (.ireturn, 1) := by decide +kernel
theorem dX10_loom_125 : decode cX10_loom 125 = .ok (.iconst (-1), 1) := by decide +kernel
theorem dX10_loom_126 : decode cX10_loom 126 = .ok (.ireturn, 1) := by decide +kernel
theorem dX10_thread_0 : decode cX10_thread 0 = .ok (.aload_n 0, 1) := by decide +kernel
theorem dX10_thread_1 : decode cX10_thread 1 = .ok (.iload_n 1, 1) := by decide +kernel
theorem dX10_thread_2 : decode cX10_thread 2 = .ok (.invokevirtual 393, 3) := by decide +kernel
theorem dX10_thread_5 : decode cX10_thread 5 = .ok (.ifCond .eq 37, 3) := by decide +kernel
theorem dX10_thread_8 : decode cX10_thread 8 = .ok (.iload_n 2, 1) := by decide +kernel
theorem dX10_thread_9 : decode cX10_thread 9 = .ok (.iconst 0, 1) := by decide +kernel
theorem dX10_thread_10 : decode cX10_thread 10 = .ok (.aload_n 0, 1) := by decide +kernel
theorem dX10_thread_11 : decode cX10_thread 11 = .ok (.getfield 64, 3) := by decide +kernel
theorem dX10_thread_14 : decode cX10_thread 14 = .ok (.iconst 4, 1) := by decide +kernel
theorem dX10_thread_15 : decode cX10_thread 15 = .ok (.aload_n 0, 1) := by decide +kernel
theorem dX10_thread_16 : decode cX10_thread 16 = .ok (.getfield 239, 3) := by decide +kernel
theorem dX10_thread_19 : decode cX10_thread 19 = .ok (.imul, 1) := by decide +kernel
theorem dX10_thread_20 : decode cX10_thread 20 = .ok (.iload_n 1, 1) := by decide +kernel
theorem dX10_thread_21 : decode cX10_thread 21 = .ok (.iadd, 1) := by decide +kernel
theorem dX10_thread_22 : decode cX10_thread 22 = .ok (.iaload, 1) := by decide +kernel
theorem dX10_thread_23 : decode cX10_thread 23 = .ok (.iconst 1, 1) := by decide +kernel
theorem dX10_thread_24 : decode cX10_thread 24 = .ok (.isub, 1) := by decide +kernel
theorem dX10_thread_25 : decode cX10_thread 25 = .ok (.invokestatic 323, 3) := by decide +kernel
theorem dX10_thread_28 : decode cX10_thread 28 = .ok (.ifCond .eq 14, 3) := by decide +kernel
theorem dX10_thread_31 : decode cX10_thread 31 = .ok (.iload_n 3, 1) := by decide +kernel
theorem dX10_thread_32 : decode cX10_thread 32 = .ok (.iconst 0, 1) := by decide +kernel
theorem dX10_thread_33 : decode cX10_thread 33 = .ok (.sipush 9999, 3) := by decide +kernel
theorem dX10_thread_36 : decode cX10_thread 36 = .ok (.invokestatic 323, 3) := by decide +kernel
theorem dX10_thread_39 : decode cX10_thread 39 = .ok (.ifCond .ne 5, 3) := by decide +kernel
theorem dX10_thread_42 : decode cX10_thread 42 = .ok (.iconst (-1), 1) := by decide +kernel
theorem dX10_thread_43 : decode cX10_thread 43 = .ok (.ireturn, 1) := by decide +kernel
theorem dX10_thread_44 : decode cX10_thread 44 = .ok (.aload_n 0, 1) := by decide +kernel
theorem dX10_thread_45 : decode cX10_thread 45 = .ok (.iload_n 1, 1) := by decide +kernel
theorem dX10_thread_46 : decode cX10_thread 46 = .ok (.iload_n 2, 1) := by decide +kernel
theorem dX10_thread_47 : decode cX10_thread 47 = .ok (.iload_n 3, 1) := by decide +kernel
theorem dX10_thread_48 : decode cX10_thread 48 = .ok (.invokevirtual 356, 3) := by decide +kernel
theorem dX10_thread_51 : decode cX10_thread 51 = .ok (.ireturn, 1) := by decide +kernel
theorem dX10_keeps_0 : decode cX10_keeps 0 = .ok (.aload_n 0, 1) := by decide +kernel
theorem dX10_keeps_1 : decode cX10_keeps 1 = .ok (.getfield 265, 3) := by decide +kernel
theorem dX10_keeps_4 : decode cX10_keeps 4 = .ok (.bipush 30, 2) := by decide +kernel
theorem dX10_keeps_6 : decode cX10_keeps 6 = .ok (.if_icmp .ne 43, 3) := by decide +kernel
theorem dX10_keeps_9 : decode cX10_keeps 9 = .ok (.iconst 0, 1) := by decide +kernel
theorem dX10_keeps_10 : decode cX10_keeps 10 = .ok (.istore_n 1, 1) := by decide +kernel
theorem dX10_keeps_11 : decode cX10_keeps 11 = .ok (.iload_n 1, 1) := by decide +kernel
theorem dX10_keeps_12 : decode cX10_keeps 12 = .ok (.sipush 2668, 3) := by decide +kernel
theorem dX10_keeps_15 : decode cX10_keeps 15 = .ok (.if_icmp .ge 24, 3) := by decide +kernel
theorem dX10_keeps_18 : decode cX10_keeps 18 = .ok (.aload_n 0, 1) := by decide +kernel
theorem dX10_keeps_19 : decode cX10_keeps 19 = .ok (.getfield 122, 3) := by decide +kernel
theorem dX10_keeps_22 : decode cX10_keeps 22 = .ok (.iload_n 1, 1) := by decide +kernel
theorem dX10_keeps_23 : decode cX10_keeps 23 = .ok (.aload_n 0, 1) := by decide +kernel
theorem dX10_keeps_24 : decode cX10_keeps 24 = .ok (.getfield 122, 3) := by decide +kernel
theorem dX10_keeps_27 : decode cX10_keeps 27 = .ok (.iload_n 1, 1) := by decide +kernel
theorem dX10_keeps_28 : decode cX10_keeps 28 = .ok (.bipush 92, 2) := by decide +kernel
theorem dX10_keeps_30 : decode cX10_keeps 30 = .ok (.iadd, 1) := by decide +kernel
theorem dX10_keeps_31 : decode cX10_keeps 31 = .ok (.iaload, 1) := by decide +kernel
theorem dX10_keeps_32 : decode cX10_keeps 32 = .ok (.iastore, 1) := by decide +kernel
theorem dX10_keeps_33 : decode cX10_keeps 33 = .ok (.iinc 1 1, 3) := by decide +kernel
theorem dX10_keeps_36 : decode cX10_keeps 36 = .ok (.goto (-25), 3) := by decide +kernel
theorem dX10_keeps_39 : decode cX10_keeps 39 = .ok (.aload_n 0, 1) := by decide +kernel
theorem dX10_keeps_40 : decode cX10_keeps 40 = .ok (.dup, 1) := by decide +kernel
theorem dX10_keeps_41 : decode cX10_keeps 41 = .ok (.getfield 265, 3) := by decide +kernel
theorem dX10_keeps_44 : decode cX10_keeps 44 = .ok (.iconst 1, 1) := by decide +kernel
theorem dX10_keeps_45 : decode cX10_keeps 45 = .ok (.isub, 1) := by decide +kernel
theorem dX10_keeps_46 : decode cX10_keeps 46 = .ok (.putfield 265, 3) := by decide +kernel
theorem dX10_keeps_49 : decode cX10_keeps 49 = .ok (.iconst 0, 1) := by decide +kernel
theorem dX10_keeps_50 : decode cX10_keeps 50 = .ok (.istore_n 1, 1) := by decide +kernel
theorem dX10_keeps_51 : decode cX10_keeps 51 = .ok (.iload_n 1, 1) := by decide +kernel
theorem dX10_keeps_52 : decode cX10_keeps 52 = .ok (.bipush 92, 2) := by decide +kernel
theorem dX10_keeps_54 : decode cX10_keeps 54 = .ok (.if_icmp .ge 29, 3) := by decide +kernel
theorem dX10_keeps_57 : decode cX10_keeps 57 = .ok (.aload_n 0, 1) := by decide +kernel
theorem dX10_keeps_58 : decode cX10_keeps 58 = .ok (.getfield 122, 3) := by decide +kernel
theorem dX10_keeps_61 : decode cX10_keeps 61 = .ok (.bipush 92, 2) := by decide +kernel
theorem dX10_keeps_63 : decode cX10_keeps 63 = .ok (.aload_n 0, 1) := by decide +kernel
theorem dX10_keeps_64 : decode cX10_keeps 64 = .ok (.getfield 265, 3) := by decide +kernel
theorem dX10_keeps_67 : decode cX10_keeps 67 = .ok (.imul, 1) := by decide +kernel
theorem dX10_keeps_68 : decode cX10_keeps 68 = .ok (.iload_n 1, 1) := by decide +kernel
theorem dX10_keeps_69 : decode cX10_keeps 69 = .ok (.iadd, 1) := by decide +kernel
theorem dX10_keeps_70 : decode cX10_keeps 70 = .ok (.aload_n 0, 1) := by decide +kernel
theorem dX10_keeps_71 : decode cX10_keeps 71 = .ok (.getfield 116, 3) := by decide +kernel
theorem dX10_keeps_74 : decode cX10_keeps 74 = .ok (.iload_n 1, 1) := by decide +kernel
theorem dX10_keeps_75 : decode cX10_keeps 75 = .ok (.iaload, 1) := by decide +kernel
theorem dX10_keeps_76 : decode cX10_keeps 76 = .ok (.iastore, 1) := by decide +kernel
theorem dX10_keeps_77 : decode cX10_keeps 77 = .ok (.iinc 1 1, 3) := by decide +kernel
theorem dX10_keeps_80 : decode cX10_keeps 80 = .ok (.goto (-29), 3) := by decide +kernel
theorem dX10_keeps_83 : decode cX10_keeps 83 = .ok (.aload_n 0, 1) := by decide +kernel
theorem dX10_keeps_84 : decode cX10_keeps 84 = .ok (.dup, 1) := by decide +kernel
theorem dX10_keeps_85 : decode cX10_keeps 85 = .ok (.getfield 265, 3) := by decide +kernel
theorem dX10_keeps_88 : decode cX10_keeps 88 = .ok (.iconst 1, 1) := by decide +kernel
theorem dX10_keeps_89 : decode cX10_keeps 89 = .ok (.iadd, 1) := by decide +kernel
theorem dX10_keeps_90 : decode cX10_keeps 90 = .ok (.putfield 265, 3) := by decide +kernel
theorem dX10_keeps_93 : decode cX10_keeps 93 = .ok (.aload_n 0, 1) := by decide +kernel
theorem dX10_keeps_94 : decode cX10_keeps 94 = .ok (.invokevirtual 169, 3) := by decide +kernel
theorem dX10_keeps_97 : decode cX10_keeps 97 = .ok (.return_, 1) := by decide +kernel
theorem dX10_isPiece_0 : decode cX10_isPiece 0 = .ok (.aload_n 0, 1) := by decide +kernel
theorem dX10_isPiece_1 : decode cX10_isPiece 1 = .ok (.iload_n 1, 1) := by decide +kernel
theorem dX10_isPiece_2 : decode cX10_isPiece 2 = .ok (.invokevirtual 393, 3) := by decide +kernel
theorem dX10_isPiece_5 : decode cX10_isPiece 5 = .ok (.ifCond .eq 38, 3) := by decide +kernel
theorem dX10_isPiece_8 : decode cX10_isPiece 8 = .ok (.iload_n 2, 1) := by decide +kernel
theorem dX10_isPiece_9 : decode cX10_isPiece 9 = .ok (.iconst 1, 1) := by decide +kernel
theorem dX10_isPiece_10 : decode cX10_isPiece 10 = .ok (.aload_n 0, 1) := by decide +kernel
theorem dX10_isPiece_11 : decode cX10_isPiece 11 = .ok (.getfield 64, 3) := by decide +kernel
theorem dX10_isPiece_14 : decode cX10_isPiece 14 = .ok (.iconst 4, 1) := by decide +kernel
theorem dX10_isPiece_15 : decode cX10_isPiece 15 = .ok (.aload_n 0, 1) := by decide +kernel
theorem dX10_isPiece_16 : decode cX10_isPiece 16 = .ok (.getfield 239, 3) := by decide +kernel
theorem dX10_isPiece_19 : decode cX10_isPiece 19 = .ok (.imul, 1) := by decide +kernel
theorem dX10_isPiece_20 : decode cX10_isPiece 20 = .ok (.iload_n 1, 1) := by decide +kernel
theorem dX10_isPiece_21 : decode cX10_isPiece 21 = .ok (.iadd, 1) := by decide +kernel
theorem dX10_isPiece_22 : decode cX10_isPiece 22 = .ok (.iaload, 1) := by decide +kernel
theorem dX10_isPiece_23 : decode cX10_isPiece 23 = .ok (.invokestatic 323, 3) := by decide +kernel
theorem dX10_isPiece_26 : decode cX10_isPiece 26 = .ok (.ifCond .eq 17, 3) := by decide +kernel
theorem dX10_isPiece_29 : decode cX10_isPiece 29 = .ok (.iload_n 3, 1) := by decide +kernel
theorem dX10_isPiece_30 : decode cX10_isPiece 30 = .ok (.iconst 1, 1) := by decide +kernel
theorem dX10_isPiece_31 : decode cX10_isPiece 31 = .ok (.bipush 6, 2) := by decide +kernel
theorem dX10_isPiece_33 : decode cX10_isPiece 33 = .ok (.invokestatic 323, 3) := by decide +kernel
theorem dX10_isPiece_36 : decode cX10_isPiece 36 = .ok (.ifCond .eq 7, 3) := by decide +kernel
theorem dX10_isPiece_39 : decode cX10_isPiece 39 = .ok (.iconst 1, 1) := by decide +kernel
theorem dX10_isPiece_40 : decode cX10_isPiece 40 = .ok (.goto 4, 3) := by decide +kernel
theorem dX10_isPiece_43 : decode cX10_isPiece 43 = .ok (.iconst 0, 1) := by decide +kernel
theorem dX10_isPiece_44 : decode cX10_isPiece 44 = .ok (.ireturn, 1) := by decide +kernel
theorem dX10_order_0 : decode cX10_order 0 = .ok (.aload_n 0, 1) := by decide +kernel
theorem dX10_order_1 : decode cX10_order 1 = .ok (.iload_n 1, 1) := by decide +kernel
theorem dX10_order_2 : decode cX10_order 2 = .ok (.iload_n 2, 1) := by decide +kernel
theorem dX10_order_3 : decode cX10_order 3 = .ok (.iload_n 3, 1) := by decide +kernel
theorem dX10_order_4 : decode cX10_order 4 = .ok (.invokevirtual 396, 3) := by decide +kernel
theorem dX10_order_7 : decode cX10_order 7 = .ok (.ifCond .eq 68, 3) := by decide +kernel
theorem dX10_order_10 : decode cX10_order 10 = .ok (.aload_n 0, 1) := by decide +kernel
theorem dX10_order_11 : decode cX10_order 11 = .ok (.iload 4, 2) := by decide +kernel
theorem dX10_order_13 : decode cX10_order 13 = .ok (.iload 5, 2) := by decide +kernel
theorem dX10_order_15 : decode cX10_order 15 = .ok (.invokevirtual 343, 3) := by decide +kernel
theorem dX10_order_18 : decode cX10_order 18 = .ok (.ifCond .eq 57, 3) := by decide +kernel
theorem dX10_order_21 : decode cX10_order 21 = .ok (.aload_n 0, 1) := by decide +kernel
theorem dX10_order_22 : decode cX10_order 22 = .ok (.getfield 116, 3) := by decide +kernel
theorem dX10_order_25 : decode cX10_order 25 = .ok (.bipush 52, 2) := by decide +kernel
theorem dX10_order_27 : decode cX10_order 27 = .ok (.iload_n 1, 1) := by decide +kernel
theorem dX10_order_28 : decode cX10_order 28 = .ok (.iadd, 1) := by decide +kernel
theorem dX10_order_29 : decode cX10_order 29 = .ok (.iaload, 1) := by decide +kernel
theorem dX10_order_30 : decode cX10_order 30 = .ok (.iload_n 2, 1) := by decide +kernel
theorem dX10_order_31 : decode cX10_order 31 = .ok (.if_icmp .ne 46, 3) := by decide +kernel
theorem dX10_order_34 : decode cX10_order 34 = .ok (.aload_n 0, 1) := by decide +kernel
theorem dX10_order_35 : decode cX10_order 35 = .ok (.getfield 116, 3) := by decide +kernel
theorem dX10_order_38 : decode cX10_order 38 = .ok (.bipush 56, 2) := by decide +kernel
theorem dX10_order_40 : decode cX10_order 40 = .ok (.iload_n 1, 1) := by decide +kernel
theorem dX10_order_41 : decode cX10_order 41 = .ok (.iadd, 1) := by decide +kernel
theorem dX10_order_42 : decode cX10_order 42 = .ok (.iaload, 1) := by decide +kernel
theorem dX10_order_43 : decode cX10_order 43 = .ok (.iload_n 3, 1) := by decide +kernel
theorem dX10_order_44 : decode cX10_order 44 = .ok (.if_icmp .ne 33, 3) := by decide +kernel
theorem dX10_order_47 : decode cX10_order 47 = .ok (.aload_n 0, 1) := by decide +kernel
theorem dX10_order_48 : decode cX10_order 48 = .ok (.getfield 116, 3) := by decide +kernel
theorem dX10_order_51 : decode cX10_order 51 = .ok (.bipush 60, 2) := by decide +kernel
theorem dX10_order_53 : decode cX10_order 53 = .ok (.iload_n 1, 1) := by decide +kernel
theorem dX10_order_54 : decode cX10_order 54 = .ok (.iadd, 1) := by decide +kernel
theorem dX10_order_55 : decode cX10_order 55 = .ok (.iaload, 1) := by decide +kernel
theorem dX10_order_56 : decode cX10_order 56 = .ok (.iload 4, 2) := by decide +kernel
theorem dX10_order_58 : decode cX10_order 58 = .ok (.if_icmp .ne 19, 3) := by decide +kernel
theorem dX10_order_61 : decode cX10_order 61 = .ok (.aload_n 0, 1) := by decide +kernel
theorem dX10_order_62 : decode cX10_order 62 = .ok (.getfield 116, 3) := by decide +kernel
theorem dX10_order_65 : decode cX10_order 65 = .ok (.bipush 64, 2) := by decide +kernel
theorem dX10_order_67 : decode cX10_order 67 = .ok (.iload_n 1, 1) := by decide +kernel
theorem dX10_order_68 : decode cX10_order 68 = .ok (.iadd, 1) := by decide +kernel
theorem dX10_order_69 : decode cX10_order 69 = .ok (.iaload, 1) := by decide +kernel
theorem dX10_order_70 : decode cX10_order 70 = .ok (.iload 5, 2) := by decide +kernel
theorem dX10_order_72 : decode cX10_order 72 = .ok (.if_icmp .ne 5, 3) := by decide +kernel
theorem dX10_order_75 : decode cX10_order 75 = .ok (.iconst 0, 1) := by decide +kernel
theorem dX10_order_76 : decode cX10_order 76 = .ok (.ireturn, 1) := by decide +kernel
theorem dX10_order_77 : decode cX10_order 77 = .ok (.aload_n 0, 1) := by decide +kernel
theorem dX10_order_78 : decode cX10_order 78 = .ok (.invokevirtual 381, 3) := by decide +kernel
theorem dX10_order_81 : decode cX10_order 81 = .ok (.aload_n 0, 1) := by decide +kernel
theorem dX10_order_82 : decode cX10_order 82 = .ok (.getfield 119, 3) := by decide +kernel
theorem dX10_order_85 : decode cX10_order 85 = .ok (.bipush 52, 2) := by decide +kernel
theorem dX10_order_87 : decode cX10_order 87 = .ok (.iload_n 1, 1) := by decide +kernel
theorem dX10_order_88 : decode cX10_order 88 = .ok (.iadd, 1) := by decide +kernel
theorem dX10_order_89 : decode cX10_order 89 = .ok (.iload_n 2, 1) := by decide +kernel
theorem dX10_order_90 : decode cX10_order 90 = .ok (.iastore, 1) := by decide +kernel
theorem dX10_order_91 : decode cX10_order 91 = .ok (.aload_n 0, 1) := by decide +kernel
theorem dX10_order_92 : decode cX10_order 92 = .ok (.getfield 119, 3) := by decide +kernel
theorem dX10_order_95 : decode cX10_order 95 = .ok (.bipush 56, 2) := by decide +kernel
theorem dX10_order_97 : decode cX10_order 97 = .ok (.iload_n 1, 1) := by decide +kernel
theorem dX10_order_98 : decode cX10_order 98 = .ok (.iadd, 1) := by decide +kernel
theorem dX10_order_99 : decode cX10_order 99 = .ok (.iload_n 3, 1) := by decide +kernel
theorem dX10_order_100 : decode cX10_order 100 = .ok (.iastore, 1) := by decide +kernel
theorem dX10_order_101 : decode cX10_order 101 = .ok (.aload_n 0, 1) := by decide +kernel
theorem dX10_order_102 : decode cX10_order 102 = .ok (.getfield 119, 3) := by decide +kernel
theorem dX10_order_105 : decode cX10_order 105 = .ok (.bipush 60, 2) := by decide +kernel
theorem dX10_order_107 : decode cX10_order 107 = .ok (.iload_n 1, 1) := by decide +kernel
theorem dX10_order_108 : decode cX10_order 108 = .ok (.iadd, 1) := by decide +kernel
theorem dX10_order_109 : decode cX10_order 109 = .ok (.iload 4, 2) := by decide +kernel
theorem dX10_order_111 : decode cX10_order 111 = .ok (.iastore, 1) := by decide +kernel
theorem dX10_order_112 : decode cX10_order 112 = .ok (.aload_n 0, 1) := by decide +kernel
theorem dX10_order_113 : decode cX10_order 113 = .ok (.getfield 119, 3) := by decide +kernel
theorem dX10_order_116 : decode cX10_order 116 = .ok (.bipush 64, 2) := by decide +kernel
theorem dX10_order_118 : decode cX10_order 118 = .ok (.iload_n 1, 1) := by decide +kernel
theorem dX10_order_119 : decode cX10_order 119 = .ok (.iadd, 1) := by decide +kernel
theorem dX10_order_120 : decode cX10_order 120 = .ok (.iload 5, 2) := by decide +kernel
theorem dX10_order_122 : decode cX10_order 122 = .ok (.iastore, 1) := by decide +kernel
theorem dX10_order_123 : decode cX10_order 123 = .ok (.aload_n 0, 1) := by decide +kernel
theorem dX10_order_124 : decode cX10_order 124 = .ok (.invokevirtual 399, 3) := by decide +kernel
theorem dX10_order_127 : decode cX10_order 127 = .ok (.iconst 1, 1) := by decide +kernel
theorem dX10_order_128 : decode cX10_order 128 = .ok (.ireturn, 1) := by decide +kernel
theorem dX10_stop_0 : decode cX10_stop 0 = .ok (.aload_n 0, 1) := by decide +kernel
theorem dX10_stop_1 : decode cX10_stop 1 = .ok (.iload_n 1, 1) := by decide +kernel
theorem dX10_stop_2 : decode cX10_stop 2 = .ok (.invokevirtual 393, 3) := by decide +kernel
theorem dX10_stop_5 : decode cX10_stop 5 = .ok (.ifCond .eq 15, 3) := by decide +kernel
theorem dX10_stop_8 : decode cX10_stop 8 = .ok (.aload_n 0, 1) := by decide +kernel
theorem dX10_stop_9 : decode cX10_stop 9 = .ok (.getfield 116, 3) := by decide +kernel
theorem dX10_stop_12 : decode cX10_stop 12 = .ok (.bipush 52, 2) := by decide +kernel
theorem dX10_stop_14 : decode cX10_stop 14 = .ok (.iload_n 1, 1) := by decide +kernel
theorem dX10_stop_15 : decode cX10_stop 15 = .ok (.iadd, 1) := by decide +kernel
theorem dX10_stop_16 : decode cX10_stop 16 = .ok (.iaload, 1) := by decide +kernel
theorem dX10_stop_17 : decode cX10_stop 17 = .ok (.ifCond .ne 5, 3) := by decide +kernel
theorem dX10_stop_20 : decode cX10_stop 20 = .ok (.iconst 0, 1) := by decide +kernel
theorem dX10_stop_21 : decode cX10_stop 21 = .ok (.ireturn, 1) := by decide +kernel
theorem dX10_stop_22 : decode cX10_stop 22 = .ok (.aload_n 0, 1) := by decide +kernel
theorem dX10_stop_23 : decode cX10_stop 23 = .ok (.invokevirtual 381, 3) := by decide +kernel
theorem dX10_stop_26 : decode cX10_stop 26 = .ok (.bipush 52, 2) := by decide +kernel
theorem dX10_stop_28 : decode cX10_stop 28 = .ok (.istore_n 2, 1) := by decide +kernel
theorem dX10_stop_29 : decode cX10_stop 29 = .ok (.iload_n 2, 1) := by decide +kernel
theorem dX10_stop_30 : decode cX10_stop 30 = .ok (.bipush 68, 2) := by decide +kernel
theorem dX10_stop_32 : decode cX10_stop 32 = .ok (.if_icmp .ge 18, 3) := by decide +kernel
theorem dX10_stop_35 : decode cX10_stop 35 = .ok (.aload_n 0, 1) := by decide +kernel
theorem dX10_stop_36 : decode cX10_stop 36 = .ok (.getfield 119, 3) := by decide +kernel
theorem dX10_stop_39 : decode cX10_stop 39 = .ok (.iload_n 2, 1) := by decide +kernel
theorem dX10_stop_40 : decode cX10_stop 40 = .ok (.iload_n 1, 1) := by decide +kernel
theorem dX10_stop_41 : decode cX10_stop 41 = .ok (.iadd, 1) := by decide +kernel
theorem dX10_stop_42 : decode cX10_stop 42 = .ok (.iconst 0, 1) := by decide +kernel
theorem dX10_stop_43 : decode cX10_stop 43 = .ok (.iastore, 1) := by decide +kernel
theorem dX10_stop_44 : decode cX10_stop 44 = .ok (.iinc 2 4, 3) := by decide +kernel
theorem dX10_stop_47 : decode cX10_stop 47 = .ok (.goto (-18), 3) := by decide +kernel
theorem dX10_stop_50 : decode cX10_stop 50 = .ok (.aload_n 0, 1) := by decide +kernel
theorem dX10_stop_51 : decode cX10_stop 51 = .ok (.invokevirtual 399, 3) := by decide +kernel
theorem dX10_stop_54 : decode cX10_stop 54 = .ok (.iconst 1, 1) := by decide +kernel
theorem dX10_stop_55 : decode cX10_stop 55 = .ok (.ireturn, 1) := by decide +kernel
theorem dX10_fall_0 : decode cX10_fall 0 = .ok (.aload_n 0, 1) := by decide +kernel
theorem dX10_fall_1 : decode cX10_fall 1 = .ok (.iload_n 1, 1) := by decide +kernel
theorem dX10_fall_2 : decode cX10_fall 2 = .ok (.iload_n 2, 1) := by decide +kernel
theorem dX10_fall_3 : decode cX10_fall 3 = .ok (.iload_n 3, 1) := by decide +kernel
theorem dX10_fall_4 : decode cX10_fall 4 = .ok (.invokevirtual 396, 3) := by decide +kernel
theorem dX10_fall_7 : decode cX10_fall 7 = .ok (.ifCond .eq 14, 3) := by decide +kernel
theorem dX10_fall_10 : decode cX10_fall 10 = .ok (.aload_n 0, 1) := by decide +kernel
theorem dX10_fall_11 : decode cX10_fall 11 = .ok (.iload 4, 2) := by decide +kernel
theorem dX10_fall_13 : decode cX10_fall 13 = .ok (.iload 5, 2) := by decide +kernel
theorem dX10_fall_15 : decode cX10_fall 15 = .ok (.invokevirtual 343, 3) := by decide +kernel
theorem dX10_fall_18 : decode cX10_fall 18 = .ok (.ifCond .ne 5, 3) := by decide +kernel
theorem dX10_fall_21 : decode cX10_fall 21 = .ok (.iconst (-1), 1) := by decide +kernel
theorem dX10_fall_22 : decode cX10_fall 22 = .ok (.ireturn, 1) := by decide +kernel
theorem dX10_fall_23 : decode cX10_fall 23 = .ok (.aload_n 0, 1) := by decide +kernel
theorem dX10_fall_24 : decode cX10_fall 24 = .ok (.invokevirtual 381, 3) := by decide +kernel
theorem dX10_fall_27 : decode cX10_fall 27 = .ok (.aload_n 0, 1) := by decide +kernel
theorem dX10_fall_28 : decode cX10_fall 28 = .ok (.iload_n 1, 1) := by decide +kernel
theorem dX10_fall_29 : decode cX10_fall 29 = .ok (.iload_n 2, 1) := by decide +kernel
theorem dX10_fall_30 : decode cX10_fall 30 = .ok (.iload_n 3, 1) := by decide +kernel
theorem dX10_fall_31 : decode cX10_fall 31 = .ok (.iload 4, 2) := by decide +kernel
theorem dX10_fall_33 : decode cX10_fall 33 = .ok (.iload 5, 2) := by decide +kernel
theorem dX10_fall_35 : decode cX10_fall 35 = .ok (.invokevirtual 362, 3) := by decide +kernel
theorem dX10_fall_38 : decode cX10_fall 38 = .ok (.istore 6, 2) := by decide +kernel
theorem dX10_fall_40 : decode cX10_fall 40 = .ok (.aload_n 0, 1) := by decide +kernel
theorem dX10_fall_41 : decode cX10_fall 41 = .ok (.invokevirtual 399, 3) := by decide +kernel
theorem dX10_fall_44 : decode cX10_fall 44 = .ok (.iload 6, 2) := by decide +kernel
theorem dX10_fall_46 : decode cX10_fall 46 = .ok (.ireturn, 1) := by decide +kernel
theorem dX10_turn_0 : decode cX10_turn 0 = .ok (.aload_n 0, 1) := by decide +kernel
theorem dX10_turn_1 : decode cX10_turn 1 = .ok (.iload_n 1, 1) := by decide +kernel
theorem dX10_turn_2 : decode cX10_turn 2 = .ok (.invokevirtual 393, 3) := by decide +kernel
theorem dX10_turn_5 : decode cX10_turn 5 = .ok (.ifCond .eq 13, 3) := by decide +kernel
theorem dX10_turn_8 : decode cX10_turn 8 = .ok (.iload_n 2, 1) := by decide +kernel
theorem dX10_turn_9 : decode cX10_turn 9 = .ok (.iconst 1, 1) := by decide +kernel
theorem dX10_turn_10 : decode cX10_turn 10 = .ok (.bipush 99, 2) := by decide +kernel
theorem dX10_turn_12 : decode cX10_turn 12 = .ok (.invokestatic 323, 3) := by decide +kernel
theorem dX10_turn_15 : decode cX10_turn 15 = .ok (.ifCond .ne 5, 3) := by decide +kernel
theorem dX10_turn_18 : decode cX10_turn 18 = .ok (.iconst (-1), 1) := by decide +kernel
theorem dX10_turn_19 : decode cX10_turn 19 = .ok (.ireturn, 1) := by decide +kernel
theorem dX10_turn_20 : decode cX10_turn 20 = .ok (.aload_n 0, 1) := by decide +kernel
theorem dX10_turn_21 : decode cX10_turn 21 = .ok (.invokevirtual 381, 3) := by decide +kernel
theorem dX10_turn_24 : decode cX10_turn 24 = .ok (.aload_n 0, 1) := by decide +kernel
theorem dX10_turn_25 : decode cX10_turn 25 = .ok (.getfield 119, 3) := by decide +kernel
theorem dX10_turn_28 : decode cX10_turn 28 = .ok (.bipush 48, 2) := by decide +kernel
theorem dX10_turn_30 : decode cX10_turn 30 = .ok (.iload_n 1, 1) := by decide +kernel
theorem dX10_turn_31 : decode cX10_turn 31 = .ok (.iadd, 1) := by decide +kernel
theorem dX10_turn_32 : decode cX10_turn 32 = .ok (.dup2, 1) := by decide +kernel
theorem dX10_turn_33 : decode cX10_turn 33 = .ok (.iaload, 1) := by decide +kernel
theorem dX10_turn_34 : decode cX10_turn 34 = .ok (.iload_n 2, 1) := by decide +kernel
theorem dX10_turn_35 : decode cX10_turn 35 = .ok (.iadd, 1) := by decide +kernel
theorem dX10_turn_36 : decode cX10_turn 36 = .ok (.iastore, 1) := by decide +kernel
theorem dX10_turn_37 : decode cX10_turn 37 = .ok (.aload_n 0, 1) := by decide +kernel
theorem dX10_turn_38 : decode cX10_turn 38 = .ok (.invokevirtual 399, 3) := by decide +kernel
theorem dX10_turn_41 : decode cX10_turn 41 = .ok (.aload_n 0, 1) := by decide +kernel
theorem dX10_turn_42 : decode cX10_turn 42 = .ok (.getfield 116, 3) := by decide +kernel
theorem dX10_turn_45 : decode cX10_turn 45 = .ok (.bipush 48, 2) := by decide +kernel
theorem dX10_turn_47 : decode cX10_turn 47 = .ok (.iload_n 1, 1) := by decide +kernel
theorem dX10_turn_48 : decode cX10_turn 48 = .ok (.iadd, 1) := by decide +kernel
theorem dX10_turn_49 : decode cX10_turn 49 = .ok (.iaload, 1) := by decide +kernel
theorem dX10_turn_50 : decode cX10_turn 50 = .ok (.ireturn, 1) := by decide +kernel
theorem dX10_days_0 : decode cX10_days 0 = .ok (.iload_n 1, 1) := by decide +kernel
theorem dX10_days_1 : decode cX10_days 1 = .ok (.iconst 0, 1) := by decide +kernel
theorem dX10_days_2 : decode cX10_days 2 = .ok (.bipush 30, 2) := by decide +kernel
theorem dX10_days_4 : decode cX10_days 4 = .ok (.invokestatic 323, 3) := by decide +kernel
theorem dX10_days_7 : decode cX10_days 7 = .ok (.ifCond .ne 5, 3) := by decide +kernel
theorem dX10_days_10 : decode cX10_days 10 = .ok (.iconst (-1), 1) := by decide +kernel
theorem dX10_days_11 : decode cX10_days 11 = .ok (.ireturn, 1) := by decide +kernel
theorem dX10_days_12 : decode cX10_days 12 = .ok (.iload_n 1, 1) := by decide +kernel
theorem dX10_days_13 : decode cX10_days 13 = .ok (.ifCond .ne 11, 3) := by decide +kernel
theorem dX10_days_16 : decode cX10_days 16 = .ok (.aload_n 0, 1) := by decide +kernel
theorem dX10_days_17 : decode cX10_days 17 = .ok (.getfield 116, 3) := by decide +kernel
theorem dX10_days_20 : decode cX10_days 20 = .ok (.bipush 89, 2) := by decide +kernel
theorem dX10_days_22 : decode cX10_days 22 = .ok (.iaload, 1) := by decide +kernel
theorem dX10_days_23 : decode cX10_days 23 = .ok (.ireturn, 1) := by decide +kernel
theorem dX10_days_24 : decode cX10_days 24 = .ok (.aload_n 0, 1) := by decide +kernel
theorem dX10_days_25 : decode cX10_days 25 = .ok (.invokevirtual 381, 3) := by decide +kernel
theorem dX10_days_28 : decode cX10_days 28 = .ok (.aload_n 0, 1) := by decide +kernel
theorem dX10_days_29 : decode cX10_days 29 = .ok (.iload_n 1, 1) := by decide +kernel
theorem dX10_days_30 : decode cX10_days 30 = .ok (.invokevirtual 402, 3) := by decide +kernel
theorem dX10_days_33 : decode cX10_days 33 = .ok (.aload_n 0, 1) := by decide +kernel
theorem dX10_days_34 : decode cX10_days 34 = .ok (.invokevirtual 399, 3) := by decide +kernel
theorem dX10_days_37 : decode cX10_days 37 = .ok (.aload_n 0, 1) := by decide +kernel
theorem dX10_days_38 : decode cX10_days 38 = .ok (.getfield 116, 3) := by decide +kernel
theorem dX10_days_41 : decode cX10_days 41 = .ok (.bipush 89, 2) := by decide +kernel
theorem dX10_days_43 : decode cX10_days 43 = .ok (.iaload, 1) := by decide +kernel
theorem dX10_days_44 : decode cX10_days 44 = .ok (.ireturn, 1) := by decide +kernel
theorem dX10_undo_0 : decode cX10_undo 0 = .ok (.aload_n 0, 1) := by decide +kernel
theorem dX10_undo_1 : decode cX10_undo 1 = .ok (.getfield 265, 3) := by decide +kernel
theorem dX10_undo_4 : decode cX10_undo 4 = .ok (.ifCond .ne 5, 3) := by decide +kernel
theorem dX10_undo_7 : decode cX10_undo 7 = .ok (.iconst 0, 1) := by decide +kernel
theorem dX10_undo_8 : decode cX10_undo 8 = .ok (.ireturn, 1) := by decide +kernel
theorem dX10_undo_9 : decode cX10_undo 9 = .ok (.aload_n 0, 1) := by decide +kernel
theorem dX10_undo_10 : decode cX10_undo 10 = .ok (.dup, 1) := by decide +kernel
theorem dX10_undo_11 : decode cX10_undo 11 = .ok (.getfield 265, 3) := by decide +kernel
theorem dX10_undo_14 : decode cX10_undo 14 = .ok (.iconst 1, 1) := by decide +kernel
theorem dX10_undo_15 : decode cX10_undo 15 = .ok (.isub, 1) := by decide +kernel
theorem dX10_undo_16 : decode cX10_undo 16 = .ok (.putfield 265, 3) := by decide +kernel
theorem dX10_undo_19 : decode cX10_undo 19 = .ok (.iconst 0, 1) := by decide +kernel
theorem dX10_undo_20 : decode cX10_undo 20 = .ok (.istore_n 1, 1) := by decide +kernel
theorem dX10_undo_21 : decode cX10_undo 21 = .ok (.iload_n 1, 1) := by decide +kernel
theorem dX10_undo_22 : decode cX10_undo 22 = .ok (.bipush 92, 2) := by decide +kernel
theorem dX10_undo_24 : decode cX10_undo 24 = .ok (.if_icmp .ge 29, 3) := by decide +kernel
theorem dX10_undo_27 : decode cX10_undo 27 = .ok (.aload_n 0, 1) := by decide +kernel
theorem dX10_undo_28 : decode cX10_undo 28 = .ok (.getfield 116, 3) := by decide +kernel
theorem dX10_undo_31 : decode cX10_undo 31 = .ok (.iload_n 1, 1) := by decide +kernel
theorem dX10_undo_32 : decode cX10_undo 32 = .ok (.aload_n 0, 1) := by decide +kernel
theorem dX10_undo_33 : decode cX10_undo 33 = .ok (.getfield 122, 3) := by decide +kernel
theorem dX10_undo_36 : decode cX10_undo 36 = .ok (.bipush 92, 2) := by decide +kernel
theorem dX10_undo_38 : decode cX10_undo 38 = .ok (.aload_n 0, 1) := by decide +kernel
theorem dX10_undo_39 : decode cX10_undo 39 = .ok (.getfield 265, 3) := by decide +kernel
theorem dX10_undo_42 : decode cX10_undo 42 = .ok (.imul, 1) := by decide +kernel
theorem dX10_undo_43 : decode cX10_undo 43 = .ok (.iload_n 1, 1) := by decide +kernel
theorem dX10_undo_44 : decode cX10_undo 44 = .ok (.iadd, 1) := by decide +kernel
theorem dX10_undo_45 : decode cX10_undo 45 = .ok (.iaload, 1) := by decide +kernel
theorem dX10_undo_46 : decode cX10_undo 46 = .ok (.iastore, 1) := by decide +kernel
theorem dX10_undo_47 : decode cX10_undo 47 = .ok (.iinc 1 1, 3) := by decide +kernel
theorem dX10_undo_50 : decode cX10_undo 50 = .ok (.goto (-29), 3) := by decide +kernel
theorem dX10_undo_53 : decode cX10_undo 53 = .ok (.iconst 1, 1) := by decide +kernel
theorem dX10_undo_54 : decode cX10_undo 54 = .ok (.ireturn, 1) := by decide +kernel
theorem dX10_heldBy_0 : decode cX10_heldBy 0 = .ok (.iconst 0, 1) := by decide +kernel
theorem dX10_heldBy_1 : decode cX10_heldBy 1 = .ok (.istore 4, 2) := by decide +kernel
theorem dX10_heldBy_3 : decode cX10_heldBy 3 = .ok (.iconst 0, 1) := by decide +kernel
theorem dX10_heldBy_4 : decode cX10_heldBy 4 = .ok (.istore 5, 2) := by decide +kernel
theorem dX10_heldBy_6 : decode cX10_heldBy 6 = .ok (.iload 5, 2) := by decide +kernel
theorem dX10_heldBy_8 : decode cX10_heldBy 8 = .ok (.iload_n 2, 1) := by decide +kernel
theorem dX10_heldBy_9 : decode cX10_heldBy 9 = .ok (.iload_n 3, 1) := by decide +kernel
theorem dX10_heldBy_10 : decode cX10_heldBy 10 = .ok (.imul, 1) := by decide +kernel
theorem dX10_heldBy_11 : decode cX10_heldBy 11 = .ok (.if_icmp .ge 37, 3) := by decide +kernel
theorem dX10_heldBy_14 : decode cX10_heldBy 14 = .ok (.iload 4, 2) := by decide +kernel
theorem dX10_heldBy_16 : decode cX10_heldBy 16 = .ok (.aload_n 0, 1) := by decide +kernel
theorem dX10_heldBy_17 : decode cX10_heldBy 17 = .ok (.iload_n 1, 1) := by decide +kernel
theorem dX10_heldBy_18 : decode cX10_heldBy 18 = .ok (.iload 5, 2) := by decide +kernel
theorem dX10_heldBy_20 : decode cX10_heldBy 20 = .ok (.iload_n 2, 1) := by decide +kernel
theorem dX10_heldBy_21 : decode cX10_heldBy 21 = .ok (.irem, 1) := by decide +kernel
theorem dX10_heldBy_22 : decode cX10_heldBy 22 = .ok (.aload_n 0, 1) := by decide +kernel
theorem dX10_heldBy_23 : decode cX10_heldBy 23 = .ok (.getfield 116, 3) := by decide +kernel
theorem dX10_heldBy_26 : decode cX10_heldBy 26 = .ok (.bipush 48, 2) := by decide +kernel
theorem dX10_heldBy_28 : decode cX10_heldBy 28 = .ok (.iload_n 1, 1) := by decide +kernel
theorem dX10_heldBy_29 : decode cX10_heldBy 29 = .ok (.iadd, 1) := by decide +kernel
theorem dX10_heldBy_30 : decode cX10_heldBy 30 = .ok (.iaload, 1) := by decide +kernel
theorem dX10_heldBy_31 : decode cX10_heldBy 31 = .ok (.iload 5, 2) := by decide +kernel
theorem dX10_heldBy_33 : decode cX10_heldBy 33 = .ok (.iload_n 2, 1) := by decide +kernel
theorem dX10_heldBy_34 : decode cX10_heldBy 34 = .ok (.idiv, 1) := by decide +kernel
theorem dX10_heldBy_35 : decode cX10_heldBy 35 = .ok (.iadd, 1) := by decide +kernel
theorem dX10_heldBy_36 : decode cX10_heldBy 36 = .ok (.invokevirtual 356, 3) := by decide +kernel
theorem dX10_heldBy_39 : decode cX10_heldBy 39 = .ok (.iadd, 1) := by decide +kernel
theorem dX10_heldBy_40 : decode cX10_heldBy 40 = .ok (.istore 4, 2) := by decide +kernel
theorem dX10_heldBy_42 : decode cX10_heldBy 42 = .ok (.iinc 5 1, 3) := by decide +kernel
theorem dX10_heldBy_45 : decode cX10_heldBy 45 = .ok (.goto (-39), 3) := by decide +kernel
theorem dX10_heldBy_48 : decode cX10_heldBy 48 = .ok (.iload 4, 2) := by decide +kernel
theorem dX10_heldBy_50 : decode cX10_heldBy 50 = .ok (.ireturn, 1) := by decide +kernel
theorem dX10_holds_0 : decode cX10_holds 0 = .ok (.aload_n 0, 1) := by decide +kernel
theorem dX10_holds_1 : decode cX10_holds 1 = .ok (.iload_n 1, 1) := by decide +kernel
theorem dX10_holds_2 : decode cX10_holds 2 = .ok (.iload_n 2, 1) := by decide +kernel
theorem dX10_holds_3 : decode cX10_holds 3 = .ok (.iload_n 3, 1) := by decide +kernel
theorem dX10_holds_4 : decode cX10_holds 4 = .ok (.invokevirtual 396, 3) := by decide +kernel
theorem dX10_holds_7 : decode cX10_holds 7 = .ok (.ifCond .ne 5, 3) := by decide +kernel
theorem dX10_holds_10 : decode cX10_holds 10 = .ok (.iconst (-1), 1) := by decide +kernel
theorem dX10_holds_11 : decode cX10_holds 11 = .ok (.ireturn, 1) := by decide +kernel
theorem dX10_holds_12 : decode cX10_holds 12 = .ok (.iload 4, 2) := by decide +kernel
theorem dX10_holds_14 : decode cX10_holds 14 = .ok (.ifCond .ne 11, 3) := by decide +kernel
theorem dX10_holds_17 : decode cX10_holds 17 = .ok (.aload_n 0, 1) := by decide +kernel
theorem dX10_holds_18 : decode cX10_holds 18 = .ok (.iload_n 1, 1) := by decide +kernel
theorem dX10_holds_19 : decode cX10_holds 19 = .ok (.iload_n 2, 1) := by decide +kernel
theorem dX10_holds_20 : decode cX10_holds 20 = .ok (.iload_n 3, 1) := by decide +kernel
theorem dX10_holds_21 : decode cX10_holds 21 = .ok (.invokevirtual 405, 3) := by decide +kernel
theorem dX10_holds_24 : decode cX10_holds 24 = .ok (.ireturn, 1) := by decide +kernel
theorem dX10_holds_25 : decode cX10_holds 25 = .ok (.iconst 0, 1) := by decide +kernel
theorem dX10_holds_26 : decode cX10_holds 26 = .ok (.istore 5, 2) := by decide +kernel
theorem dX10_holds_28 : decode cX10_holds 28 = .ok (.iconst 0, 1) := by decide +kernel
theorem dX10_holds_29 : decode cX10_holds 29 = .ok (.istore 6, 2) := by decide +kernel
theorem dX10_holds_31 : decode cX10_holds 31 = .ok (.iload 6, 2) := by decide +kernel
theorem dX10_holds_33 : decode cX10_holds 33 = .ok (.iload_n 2, 1) := by decide +kernel
theorem dX10_holds_34 : decode cX10_holds 34 = .ok (.iload_n 3, 1) := by decide +kernel
theorem dX10_holds_35 : decode cX10_holds 35 = .ok (.imul, 1) := by decide +kernel
theorem dX10_holds_36 : decode cX10_holds 36 = .ok (.if_icmp .ge 38, 3) := by decide +kernel
theorem dX10_holds_39 : decode cX10_holds 39 = .ok (.aload_n 0, 1) := by decide +kernel
theorem dX10_holds_40 : decode cX10_holds 40 = .ok (.iload_n 1, 1) := by decide +kernel
theorem dX10_holds_41 : decode cX10_holds 41 = .ok (.iload 6, 2) := by decide +kernel
theorem dX10_holds_43 : decode cX10_holds 43 = .ok (.iload_n 2, 1) := by decide +kernel
theorem dX10_holds_44 : decode cX10_holds 44 = .ok (.irem, 1) := by decide +kernel
theorem dX10_holds_45 : decode cX10_holds 45 = .ok (.aload_n 0, 1) := by decide +kernel
theorem dX10_holds_46 : decode cX10_holds 46 = .ok (.getfield 116, 3) := by decide +kernel
theorem dX10_holds_49 : decode cX10_holds 49 = .ok (.bipush 48, 2) := by decide +kernel
theorem dX10_holds_51 : decode cX10_holds 51 = .ok (.iload_n 1, 1) := by decide +kernel
theorem dX10_holds_52 : decode cX10_holds 52 = .ok (.iadd, 1) := by decide +kernel
theorem dX10_holds_53 : decode cX10_holds 53 = .ok (.iaload, 1) := by decide +kernel
theorem dX10_holds_54 : decode cX10_holds 54 = .ok (.iload 6, 2) := by decide +kernel
theorem dX10_holds_56 : decode cX10_holds 56 = .ok (.iload_n 2, 1) := by decide +kernel
theorem dX10_holds_57 : decode cX10_holds 57 = .ok (.idiv, 1) := by decide +kernel
theorem dX10_holds_58 : decode cX10_holds 58 = .ok (.iadd, 1) := by decide +kernel
theorem dX10_holds_59 : decode cX10_holds 59 = .ok (.invokevirtual 356, 3) := by decide +kernel
theorem dX10_holds_62 : decode cX10_holds 62 = .ok (.ifCond .ne 6, 3) := by decide +kernel
theorem dX10_holds_65 : decode cX10_holds 65 = .ok (.iinc 5 1, 3) := by decide +kernel
theorem dX10_holds_68 : decode cX10_holds 68 = .ok (.iinc 6 1, 3) := by decide +kernel
theorem dX10_holds_71 : decode cX10_holds 71 = .ok (.goto (-40), 3) := by decide +kernel
theorem dX10_holds_74 : decode cX10_holds 74 = .ok (.iload 5, 2) := by decide +kernel
theorem dX10_holds_76 : decode cX10_holds 76 = .ok (.ireturn, 1) := by decide +kernel
theorem dX10_comes_0 : decode cX10_comes 0 = .ok (.aload_n 0, 1) := by decide +kernel
theorem dX10_comes_1 : decode cX10_comes 1 = .ok (.iload_n 1, 1) := by decide +kernel
theorem dX10_comes_2 : decode cX10_comes 2 = .ok (.invokevirtual 393, 3) := by decide +kernel
theorem dX10_comes_5 : decode cX10_comes 5 = .ok (.ifCond .eq 37, 3) := by decide +kernel
theorem dX10_comes_8 : decode cX10_comes 8 = .ok (.iload_n 2, 1) := by decide +kernel
theorem dX10_comes_9 : decode cX10_comes 9 = .ok (.iconst 1, 1) := by decide +kernel
theorem dX10_comes_10 : decode cX10_comes 10 = .ok (.aload_n 0, 1) := by decide +kernel
theorem dX10_comes_11 : decode cX10_comes 11 = .ok (.getfield 64, 3) := by decide +kernel
theorem dX10_comes_14 : decode cX10_comes 14 = .ok (.iconst 4, 1) := by decide +kernel
theorem dX10_comes_15 : decode cX10_comes 15 = .ok (.aload_n 0, 1) := by decide +kernel
theorem dX10_comes_16 : decode cX10_comes 16 = .ok (.getfield 239, 3) := by decide +kernel
theorem dX10_comes_19 : decode cX10_comes 19 = .ok (.imul, 1) := by decide +kernel
theorem dX10_comes_20 : decode cX10_comes 20 = .ok (.iload_n 1, 1) := by decide +kernel
theorem dX10_comes_21 : decode cX10_comes 21 = .ok (.iadd, 1) := by decide +kernel
theorem dX10_comes_22 : decode cX10_comes 22 = .ok (.iaload, 1) := by decide +kernel
theorem dX10_comes_23 : decode cX10_comes 23 = .ok (.invokestatic 323, 3) := by decide +kernel
theorem dX10_comes_26 : decode cX10_comes 26 = .ok (.ifCond .eq 16, 3) := by decide +kernel
theorem dX10_comes_29 : decode cX10_comes 29 = .ok (.iload_n 3, 1) := by decide +kernel
theorem dX10_comes_30 : decode cX10_comes 30 = .ok (.iconst 0, 1) := by decide +kernel
theorem dX10_comes_31 : decode cX10_comes 31 = .ok (.iconst 1, 1) := by decide +kernel
theorem dX10_comes_32 : decode cX10_comes 32 = .ok (.iload_n 2, 1) := by decide +kernel
theorem dX10_comes_33 : decode cX10_comes 33 = .ok (.ishl, 1) := by decide +kernel
theorem dX10_comes_34 : decode cX10_comes 34 = .ok (.iconst 1, 1) := by decide +kernel
theorem dX10_comes_35 : decode cX10_comes 35 = .ok (.isub, 1) := by decide +kernel
theorem dX10_comes_36 : decode cX10_comes 36 = .ok (.invokestatic 323, 3) := by decide +kernel
theorem dX10_comes_39 : decode cX10_comes 39 = .ok (.ifCond .ne 5, 3) := by decide +kernel
theorem dX10_comes_42 : decode cX10_comes 42 = .ok (.iconst (-1), 1) := by decide +kernel
theorem dX10_comes_43 : decode cX10_comes 43 = .ok (.ireturn, 1) := by decide +kernel
theorem dX10_comes_44 : decode cX10_comes 44 = .ok (.iconst 0, 1) := by decide +kernel
theorem dX10_comes_45 : decode cX10_comes 45 = .ok (.istore 4, 2) := by decide +kernel
theorem dX10_comes_47 : decode cX10_comes 47 = .ok (.iload 4, 2) := by decide +kernel
theorem dX10_comes_49 : decode cX10_comes 49 = .ok (.sipush 200, 3) := by decide +kernel
theorem dX10_comes_52 : decode cX10_comes 52 = .ok (.if_icmp .gt 67, 3) := by decide +kernel
theorem dX10_comes_55 : decode cX10_comes 55 = .ok (.iconst 0, 1) := by decide +kernel
theorem dX10_comes_56 : decode cX10_comes 56 = .ok (.istore 5, 2) := by decide +kernel
theorem dX10_comes_58 : decode cX10_comes 58 = .ok (.iconst 0, 1) := by decide +kernel
theorem dX10_comes_59 : decode cX10_comes 59 = .ok (.istore 6, 2) := by decide +kernel
theorem dX10_comes_61 : decode cX10_comes 61 = .ok (.iload 6, 2) := by decide +kernel
theorem dX10_comes_63 : decode cX10_comes 63 = .ok (.iload_n 2, 1) := by decide +kernel
theorem dX10_comes_64 : decode cX10_comes 64 = .ok (.if_icmp .ge 40, 3) := by decide +kernel
theorem dX10_comes_67 : decode cX10_comes 67 = .ok (.aload_n 0, 1) := by decide +kernel
theorem dX10_comes_68 : decode cX10_comes 68 = .ok (.iload_n 1, 1) := by decide +kernel
theorem dX10_comes_69 : decode cX10_comes 69 = .ok (.iload 6, 2) := by decide +kernel
theorem dX10_comes_71 : decode cX10_comes 71 = .ok (.aload_n 0, 1) := by decide +kernel
theorem dX10_comes_72 : decode cX10_comes 72 = .ok (.getfield 116, 3) := by decide +kernel
theorem dX10_comes_75 : decode cX10_comes 75 = .ok (.bipush 48, 2) := by decide +kernel
theorem dX10_comes_77 : decode cX10_comes 77 = .ok (.iload_n 1, 1) := by decide +kernel
theorem dX10_comes_78 : decode cX10_comes 78 = .ok (.iadd, 1) := by decide +kernel
theorem dX10_comes_79 : decode cX10_comes 79 = .ok (.iaload, 1) := by decide +kernel
theorem dX10_comes_80 : decode cX10_comes 80 = .ok (.iload 4, 2) := by decide +kernel
theorem dX10_comes_82 : decode cX10_comes 82 = .ok (.iadd, 1) := by decide +kernel
theorem dX10_comes_83 : decode cX10_comes 83 = .ok (.invokevirtual 356, 3) := by decide +kernel
theorem dX10_comes_86 : decode cX10_comes 86 = .ok (.ifCond .le 12, 3) := by decide +kernel
theorem dX10_comes_89 : decode cX10_comes 89 = .ok (.iload 5, 2) := by decide +kernel
theorem dX10_comes_91 : decode cX10_comes 91 = .ok (.iconst 1, 1) := by decide +kernel
theorem dX10_comes_92 : decode cX10_comes 92 = .ok (.iload 6, 2) := by decide +kernel
theorem dX10_comes_94 : decode cX10_comes 94 = .ok (.ishl, 1) := by decide +kernel
theorem dX10_comes_95 : decode cX10_comes 95 = .ok (.ior, 1) := by decide +kernel
theorem dX10_comes_96 : decode cX10_comes 96 = .ok (.istore 5, 2) := by decide +kernel
theorem dX10_comes_98 : decode cX10_comes 98 = .ok (.iinc 6 1, 3) := by decide +kernel
theorem dX10_comes_101 : decode cX10_comes 101 = .ok (.goto (-40), 3) := by decide +kernel
theorem dX10_comes_104 : decode cX10_comes 104 = .ok (.iload 5, 2) := by decide +kernel
theorem dX10_comes_106 : decode cX10_comes 106 = .ok (.iload_n 3, 1) := by decide +kernel
theorem dX10_comes_107 : decode cX10_comes 107 = .ok (.if_icmp .ne 6, 3) := by decide +kernel
theorem dX10_comes_110 : decode cX10_comes 110 = .ok (.iload 4, 2) := by decide +kernel
theorem dX10_comes_112 : decode cX10_comes 112 = .ok (.ireturn, 1) := by decide +kernel
theorem dX10_comes_113 : decode cX10_comes 113 = .ok (.iinc 4 1, 3) := by decide +kernel
theorem dX10_comes_116 : decode cX10_comes 116 = .ok (.goto (-69), 3) := by decide +kernel
theorem dX10_comes_119 : decode cX10_comes 119 = .ok (.bipush (-2), 2) := by decide +kernel
theorem dX10_comes_121 : decode cX10_comes 121 = .ok (.ireturn, 1) := by decide +kernel
theorem dX10_isRound_0 : decode cX10_isRound 0 = .ok (.iconst 0, 1) := by decide +kernel
theorem dX10_isRound_1 : decode cX10_isRound 1 = .ok (.istore_n 3, 1) := by decide +kernel
theorem dX10_isRound_2 : decode cX10_isRound 2 = .ok (.iload_n 3, 1) := by decide +kernel
theorem dX10_isRound_3 : decode cX10_isRound 3 = .ok (.bipush 48, 2) := by decide +kernel
theorem dX10_isRound_5 : decode cX10_isRound 5 = .ok (.if_icmp .ge 79, 3) := by decide +kernel
theorem dX10_isRound_8 : decode cX10_isRound 8 = .ok (.iconst 0, 1) := by decide +kernel
theorem dX10_isRound_9 : decode cX10_isRound 9 = .ok (.istore 4, 2) := by decide +kernel
theorem dX10_isRound_11 : decode cX10_isRound 11 = .ok (.iload 4, 2) := by decide +kernel
theorem dX10_isRound_13 : decode cX10_isRound 13 = .ok (.aload_n 0, 1) := by decide +kernel
theorem dX10_isRound_14 : decode cX10_isRound 14 = .ok (.getfield 64, 3) := by decide +kernel
theorem dX10_isRound_17 : decode cX10_isRound 17 = .ok (.iconst 4, 1) := by decide +kernel
theorem dX10_isRound_18 : decode cX10_isRound 18 = .ok (.aload_n 0, 1) := by decide +kernel
theorem dX10_isRound_19 : decode cX10_isRound 19 = .ok (.getfield 239, 3) := by decide +kernel
theorem dX10_isRound_22 : decode cX10_isRound 22 = .ok (.imul, 1) := by decide +kernel
theorem dX10_isRound_23 : decode cX10_isRound 23 = .ok (.iload_n 1, 1) := by decide +kernel
theorem dX10_isRound_24 : decode cX10_isRound 24 = .ok (.iadd, 1) := by decide +kernel
theorem dX10_isRound_25 : decode cX10_isRound 25 = .ok (.iaload, 1) := by decide +kernel
theorem dX10_isRound_26 : decode cX10_isRound 26 = .ok (.if_icmp .ge 52, 3) := by decide +kernel
theorem dX10_isRound_29 : decode cX10_isRound 29 = .ok (.aload_n 0, 1) := by decide +kernel
theorem dX10_isRound_30 : decode cX10_isRound 30 = .ok (.iload_n 1, 1) := by decide +kernel
theorem dX10_isRound_31 : decode cX10_isRound 31 = .ok (.iload 4, 2) := by decide +kernel
theorem dX10_isRound_33 : decode cX10_isRound 33 = .ok (.aload_n 0, 1) := by decide +kernel
theorem dX10_isRound_34 : decode cX10_isRound 34 = .ok (.getfield 116, 3) := by decide +kernel
theorem dX10_isRound_37 : decode cX10_isRound 37 = .ok (.bipush 48, 2) := by decide +kernel
theorem dX10_isRound_39 : decode cX10_isRound 39 = .ok (.iload_n 1, 1) := by decide +kernel
theorem dX10_isRound_40 : decode cX10_isRound 40 = .ok (.iadd, 1) := by decide +kernel
theorem dX10_isRound_41 : decode cX10_isRound 41 = .ok (.iaload, 1) := by decide +kernel
theorem dX10_isRound_42 : decode cX10_isRound 42 = .ok (.iload_n 3, 1) := by decide +kernel
theorem dX10_isRound_43 : decode cX10_isRound 43 = .ok (.iadd, 1) := by decide +kernel
theorem dX10_isRound_44 : decode cX10_isRound 44 = .ok (.invokevirtual 356, 3) := by decide +kernel
theorem dX10_isRound_47 : decode cX10_isRound 47 = .ok (.aload_n 0, 1) := by decide +kernel
theorem dX10_isRound_48 : decode cX10_isRound 48 = .ok (.iload_n 1, 1) := by decide +kernel
theorem dX10_isRound_49 : decode cX10_isRound 49 = .ok (.iload 4, 2) := by decide +kernel
theorem dX10_isRound_51 : decode cX10_isRound 51 = .ok (.aload_n 0, 1) := by decide +kernel
theorem dX10_isRound_52 : decode cX10_isRound 52 = .ok (.getfield 116, 3) := by decide +kernel
theorem dX10_isRound_55 : decode cX10_isRound 55 = .ok (.bipush 48, 2) := by decide +kernel
theorem dX10_isRound_57 : decode cX10_isRound 57 = .ok (.iload_n 1, 1) := by decide +kernel
theorem dX10_isRound_58 : decode cX10_isRound 58 = .ok (.iadd, 1) := by decide +kernel
theorem dX10_isRound_59 : decode cX10_isRound 59 = .ok (.iaload, 1) := by decide +kernel
theorem dX10_isRound_60 : decode cX10_isRound 60 = .ok (.iload_n 3, 1) := by decide +kernel
theorem dX10_isRound_61 : decode cX10_isRound 61 = .ok (.iadd, 1) := by decide +kernel
theorem dX10_isRound_62 : decode cX10_isRound 62 = .ok (.iload_n 2, 1) := by decide +kernel
theorem dX10_isRound_63 : decode cX10_isRound 63 = .ok (.iadd, 1) := by decide +kernel
theorem dX10_isRound_64 : decode cX10_isRound 64 = .ok (.invokevirtual 356, 3) := by decide +kernel
theorem dX10_isRound_67 : decode cX10_isRound 67 = .ok (.if_icmp .eq 5, 3) := by decide +kernel
theorem dX10_isRound_70 : decode cX10_isRound 70 = .ok (.iconst 0, 1) := by decide +kernel
theorem dX10_isRound_71 : decode cX10_isRound 71 = .ok (.ireturn, 1) := by decide +kernel
theorem dX10_isRound_72 : decode cX10_isRound 72 = .ok (.iinc 4 1, 3) := by decide +kernel
theorem dX10_isRound_75 : decode cX10_isRound 75 = .ok (.goto (-64), 3) := by decide +kernel
theorem dX10_isRound_78 : decode cX10_isRound 78 = .ok (.iinc 3 1, 3) := by decide +kernel
theorem dX10_isRound_81 : decode cX10_isRound 81 = .ok (.goto (-79), 3) := by decide +kernel
theorem dX10_isRound_84 : decode cX10_isRound 84 = .ok (.iconst 1, 1) := by decide +kernel
theorem dX10_isRound_85 : decode cX10_isRound 85 = .ok (.ireturn, 1) := by decide +kernel
theorem dX10_round_0 : decode cX10_round 0 = .ok (.aload_n 0, 1) := by decide +kernel
theorem dX10_round_1 : decode cX10_round 1 = .ok (.iload_n 1, 1) := by decide +kernel
theorem dX10_round_2 : decode cX10_round 2 = .ok (.invokevirtual 393, 3) := by decide +kernel
theorem dX10_round_5 : decode cX10_round 5 = .ok (.ifCond .ne 5, 3) := by decide +kernel
theorem dX10_round_8 : decode cX10_round 8 = .ok (.iconst (-1), 1) := by decide +kernel
theorem dX10_round_9 : decode cX10_round 9 = .ok (.ireturn, 1) := by decide +kernel
theorem dX10_round_10 : decode cX10_round 10 = .ok (.iconst 1, 1) := by decide +kernel
theorem dX10_round_11 : decode cX10_round 11 = .ok (.istore_n 2, 1) := by decide +kernel
theorem dX10_round_12 : decode cX10_round 12 = .ok (.iload_n 2, 1) := by decide +kernel
theorem dX10_round_13 : decode cX10_round 13 = .ok (.bipush 99, 2) := by decide +kernel
theorem dX10_round_15 : decode cX10_round 15 = .ok (.if_icmp .gt 20, 3) := by decide +kernel
theorem dX10_round_18 : decode cX10_round 18 = .ok (.aload_n 0, 1) := by decide +kernel
theorem dX10_round_19 : decode cX10_round 19 = .ok (.iload_n 1, 1) := by decide +kernel
theorem dX10_round_20 : decode cX10_round 20 = .ok (.iload_n 2, 1) := by decide +kernel
theorem dX10_round_21 : decode cX10_round 21 = .ok (.invokevirtual 408, 3) := by decide +kernel
theorem dX10_round_24 : decode cX10_round 24 = .ok (.ifCond .eq 5, 3) := by decide +kernel
theorem dX10_round_27 : decode cX10_round 27 = .ok (.iload_n 2, 1) := by decide +kernel
theorem dX10_round_28 : decode cX10_round 28 = .ok (.ireturn, 1) := by decide +kernel
theorem dX10_round_29 : decode cX10_round 29 = .ok (.iinc 2 1, 3) := by decide +kernel
theorem dX10_round_32 : decode cX10_round 32 = .ok (.goto (-20), 3) := by decide +kernel
theorem dX10_round_35 : decode cX10_round 35 = .ok (.bipush (-2), 2) := by decide +kernel
theorem dX10_round_37 : decode cX10_round 37 = .ok (.ireturn, 1) := by decide +kernel
theorem dX10_agree_0 : decode cX10_agree 0 = .ok (.aload_n 0, 1) := by decide +kernel
theorem dX10_agree_1 : decode cX10_agree 1 = .ok (.iload_n 1, 1) := by decide +kernel
theorem dX10_agree_2 : decode cX10_agree 2 = .ok (.invokevirtual 393, 3) := by decide +kernel
theorem dX10_agree_5 : decode cX10_agree 5 = .ok (.ifCond .eq 16, 3) := by decide +kernel
theorem dX10_agree_8 : decode cX10_agree 8 = .ok (.aload_n 0, 1) := by decide +kernel
theorem dX10_agree_9 : decode cX10_agree 9 = .ok (.iload_n 2, 1) := by decide +kernel
theorem dX10_agree_10 : decode cX10_agree 10 = .ok (.invokevirtual 393, 3) := by decide +kernel
theorem dX10_agree_13 : decode cX10_agree 13 = .ok (.ifCond .eq 8, 3) := by decide +kernel
theorem dX10_agree_16 : decode cX10_agree 16 = .ok (.iload_n 1, 1) := by decide +kernel
theorem dX10_agree_17 : decode cX10_agree 17 = .ok (.iload_n 2, 1) := by decide +kernel
theorem dX10_agree_18 : decode cX10_agree 18 = .ok (.if_icmp .ne 5, 3) := by decide +kernel
theorem dX10_agree_21 : decode cX10_agree 21 = .ok (.iconst (-1), 1) := by decide +kernel
theorem dX10_agree_22 : decode cX10_agree 22 = .ok (.ireturn, 1) := by decide +kernel
theorem dX10_agree_23 : decode cX10_agree 23 = .ok (.iconst 0, 1) := by decide +kernel
theorem dX10_agree_24 : decode cX10_agree 24 = .ok (.istore_n 3, 1) := by decide +kernel
theorem dX10_agree_25 : decode cX10_agree 25 = .ok (.iload_n 3, 1) := by decide +kernel
theorem dX10_agree_26 : decode cX10_agree 26 = .ok (.sipush 200, 3) := by decide +kernel
theorem dX10_agree_29 : decode cX10_agree 29 = .ok (.if_icmp .gt 106, 3) := by decide +kernel
theorem dX10_agree_32 : decode cX10_agree 32 = .ok (.iconst 1, 1) := by decide +kernel
theorem dX10_agree_33 : decode cX10_agree 33 = .ok (.istore 4, 2) := by decide +kernel
theorem dX10_agree_35 : decode cX10_agree 35 = .ok (.iconst 0, 1) := by decide +kernel
theorem dX10_agree_36 : decode cX10_agree 36 = .ok (.istore 5, 2) := by decide +kernel
theorem dX10_agree_38 : decode cX10_agree 38 = .ok (.iload 5, 2) := by decide +kernel
theorem dX10_agree_40 : decode cX10_agree 40 = .ok (.aload_n 0, 1) := by decide +kernel
theorem dX10_agree_41 : decode cX10_agree 41 = .ok (.getfield 64, 3) := by decide +kernel
theorem dX10_agree_44 : decode cX10_agree 44 = .ok (.iconst 4, 1) := by decide +kernel
theorem dX10_agree_45 : decode cX10_agree 45 = .ok (.aload_n 0, 1) := by decide +kernel
theorem dX10_agree_46 : decode cX10_agree 46 = .ok (.getfield 239, 3) := by decide +kernel
theorem dX10_agree_49 : decode cX10_agree 49 = .ok (.imul, 1) := by decide +kernel
theorem dX10_agree_50 : decode cX10_agree 50 = .ok (.iload_n 1, 1) := by decide +kernel
theorem dX10_agree_51 : decode cX10_agree 51 = .ok (.iadd, 1) := by decide +kernel
theorem dX10_agree_52 : decode cX10_agree 52 = .ok (.iaload, 1) := by decide +kernel
theorem dX10_agree_53 : decode cX10_agree 53 = .ok (.if_icmp .ge 69, 3) := by decide +kernel
theorem dX10_agree_56 : decode cX10_agree 56 = .ok (.iload 5, 2) := by decide +kernel
theorem dX10_agree_58 : decode cX10_agree 58 = .ok (.aload_n 0, 1) := by decide +kernel
theorem dX10_agree_59 : decode cX10_agree 59 = .ok (.getfield 64, 3) := by decide +kernel
theorem dX10_agree_62 : decode cX10_agree 62 = .ok (.iconst 4, 1) := by decide +kernel
theorem dX10_agree_63 : decode cX10_agree 63 = .ok (.aload_n 0, 1) := by decide +kernel
theorem dX10_agree_64 : decode cX10_agree 64 = .ok (.getfield 239, 3) := by decide +kernel
theorem dX10_agree_67 : decode cX10_agree 67 = .ok (.imul, 1) := by decide +kernel
theorem dX10_agree_68 : decode cX10_agree 68 = .ok (.iload_n 2, 1) := by decide +kernel
theorem dX10_agree_69 : decode cX10_agree 69 = .ok (.iadd, 1) := by decide +kernel
theorem dX10_agree_70 : decode cX10_agree 70 = .ok (.iaload, 1) := by decide +kernel
theorem dX10_agree_71 : decode cX10_agree 71 = .ok (.if_icmp .ge 51, 3) := by decide +kernel
theorem dX10_agree_74 : decode cX10_agree 74 = .ok (.aload_n 0, 1) := by decide +kernel
theorem dX10_agree_75 : decode cX10_agree 75 = .ok (.iload_n 1, 1) := by decide +kernel
theorem dX10_agree_76 : decode cX10_agree 76 = .ok (.iload 5, 2) := by decide +kernel
theorem dX10_agree_78 : decode cX10_agree 78 = .ok (.aload_n 0, 1) := by decide +kernel
theorem dX10_agree_79 : decode cX10_agree 79 = .ok (.getfield 116, 3) := by decide +kernel
theorem dX10_agree_82 : decode cX10_agree 82 = .ok (.bipush 48, 2) := by decide +kernel
theorem dX10_agree_84 : decode cX10_agree 84 = .ok (.iload_n 1, 1) := by decide +kernel
theorem dX10_agree_85 : decode cX10_agree 85 = .ok (.iadd, 1) := by decide +kernel
theorem dX10_agree_86 : decode cX10_agree 86 = .ok (.iaload, 1) := by decide +kernel
theorem dX10_agree_87 : decode cX10_agree 87 = .ok (.iload_n 3, 1) := by decide +kernel
theorem dX10_agree_88 : decode cX10_agree 88 = .ok (.iadd, 1) := by decide +kernel
theorem dX10_agree_89 : decode cX10_agree 89 = .ok (.invokevirtual 356, 3) := by decide +kernel
theorem dX10_agree_92 : decode cX10_agree 92 = .ok (.aload_n 0, 1) := by decide +kernel
theorem dX10_agree_93 : decode cX10_agree 93 = .ok (.iload_n 2, 1) := by decide +kernel
theorem dX10_agree_94 : decode cX10_agree 94 = .ok (.iload 5, 2) := by decide +kernel
theorem dX10_agree_96 : decode cX10_agree 96 = .ok (.aload_n 0, 1) := by decide +kernel
theorem dX10_agree_97 : decode cX10_agree 97 = .ok (.getfield 116, 3) := by decide +kernel
theorem dX10_agree_100 : decode cX10_agree 100 = .ok (.bipush 48, 2) := by decide +kernel
theorem dX10_agree_102 : decode cX10_agree 102 = .ok (.iload_n 2, 1) := by decide +kernel
theorem dX10_agree_103 : decode cX10_agree 103 = .ok (.iadd, 1) := by decide +kernel
theorem dX10_agree_104 : decode cX10_agree 104 = .ok (.iaload, 1) := by decide +kernel
theorem dX10_agree_105 : decode cX10_agree 105 = .ok (.iload_n 3, 1) := by decide +kernel
theorem dX10_agree_106 : decode cX10_agree 106 = .ok (.iadd, 1) := by decide +kernel
theorem dX10_agree_107 : decode cX10_agree 107 = .ok (.invokevirtual 356, 3) := by decide +kernel
theorem dX10_agree_110 : decode cX10_agree 110 = .ok (.if_icmp .eq 6, 3) := by decide +kernel
theorem dX10_agree_113 : decode cX10_agree 113 = .ok (.iconst 0, 1) := by decide +kernel
theorem dX10_agree_114 : decode cX10_agree 114 = .ok (.istore 4, 2) := by decide +kernel
theorem dX10_agree_116 : decode cX10_agree 116 = .ok (.iinc 5 1, 3) := by decide +kernel
theorem dX10_agree_119 : decode cX10_agree 119 = .ok (.goto (-81), 3) := by decide +kernel
theorem dX10_agree_122 : decode cX10_agree 122 = .ok (.iload 4, 2) := by decide +kernel
theorem dX10_agree_124 : decode cX10_agree 124 = .ok (.ifCond .eq 5, 3) := by decide +kernel
theorem dX10_agree_127 : decode cX10_agree 127 = .ok (.iload_n 3, 1) := by decide +kernel
theorem dX10_agree_128 : decode cX10_agree 128 = .ok (.ireturn, 1) := by decide +kernel
theorem dX10_agree_129 : decode cX10_agree 129 = .ok (.iinc 3 1, 3) := by decide +kernel
theorem dX10_agree_132 : decode cX10_agree 132 = .ok (.goto (-107), 3) := by decide +kernel
theorem dX10_agree_135 : decode cX10_agree 135 = .ok (.bipush (-2), 2) := by decide +kernel
theorem dX10_agree_137 : decode cX10_agree 137 = .ok (.ireturn, 1) := by decide +kernel
theorem dX10_moreBy_0 : decode cX10_moreBy 0 = .ok (.aload_n 0, 1) := by decide +kernel
theorem dX10_moreBy_1 : decode cX10_moreBy 1 = .ok (.invokevirtual 381, 3) := by decide +kernel
theorem dX10_moreBy_4 : decode cX10_moreBy 4 = .ok (.aload_n 0, 1) := by decide +kernel
theorem dX10_moreBy_5 : decode cX10_moreBy 5 = .ok (.iload_n 1, 1) := by decide +kernel
theorem dX10_moreBy_6 : decode cX10_moreBy 6 = .ok (.iload_n 2, 1) := by decide +kernel
theorem dX10_moreBy_7 : decode cX10_moreBy 7 = .ok (.iload_n 3, 1) := by decide +kernel
theorem dX10_moreBy_8 : decode cX10_moreBy 8 = .ok (.iload 4, 2) := by decide +kernel
theorem dX10_moreBy_10 : decode cX10_moreBy 10 = .ok (.iload 5, 2) := by decide +kernel
theorem dX10_moreBy_12 : decode cX10_moreBy 12 = .ok (.invokevirtual 362, 3) := by decide +kernel
theorem dX10_moreBy_15 : decode cX10_moreBy 15 = .ok (.pop, 1) := by decide +kernel
theorem dX10_moreBy_16 : decode cX10_moreBy 16 = .ok (.iconst 0, 1) := by decide +kernel
theorem dX10_moreBy_17 : decode cX10_moreBy 17 = .ok (.istore 6, 2) := by decide +kernel
theorem dX10_moreBy_19 : decode cX10_moreBy 19 = .ok (.iconst 0, 1) := by decide +kernel
theorem dX10_moreBy_20 : decode cX10_moreBy 20 = .ok (.istore 7, 2) := by decide +kernel
theorem dX10_moreBy_22 : decode cX10_moreBy 22 = .ok (.iload 7, 2) := by decide +kernel
theorem dX10_moreBy_24 : decode cX10_moreBy 24 = .ok (.bipush 48, 2) := by decide +kernel
theorem dX10_moreBy_26 : decode cX10_moreBy 26 = .ok (.if_icmp .ge 100, 3) := by decide +kernel
theorem dX10_moreBy_29 : decode cX10_moreBy 29 = .ok (.aload_n 0, 1) := by decide +kernel
theorem dX10_moreBy_30 : decode cX10_moreBy 30 = .ok (.iload 7, 2) := by decide +kernel
theorem dX10_moreBy_32 : decode cX10_moreBy 32 = .ok (.invokevirtual 366, 3) := by decide +kernel
theorem dX10_moreBy_35 : decode cX10_moreBy 35 = .ok (.ifCond .eq 85, 3) := by decide +kernel
theorem dX10_moreBy_38 : decode cX10_moreBy 38 = .ok (.aload_n 0, 1) := by decide +kernel
theorem dX10_moreBy_39 : decode cX10_moreBy 39 = .ok (.iload 7, 2) := by decide +kernel
theorem dX10_moreBy_41 : decode cX10_moreBy 41 = .ok (.invokevirtual 347, 3) := by decide +kernel
theorem dX10_moreBy_44 : decode cX10_moreBy 44 = .ok (.ifCond .ge 6, 3) := by decide +kernel
theorem dX10_moreBy_47 : decode cX10_moreBy 47 = .ok (.goto 73, 3) := by decide +kernel
theorem dX10_moreBy_50 : decode cX10_moreBy 50 = .ok (.aload_n 0, 1) := by decide +kernel
theorem dX10_moreBy_51 : decode cX10_moreBy 51 = .ok (.getfield 116, 3) := by decide +kernel
theorem dX10_moreBy_54 : decode cX10_moreBy 54 = .ok (.iload 7, 2) := by decide +kernel
theorem dX10_moreBy_56 : decode cX10_moreBy 56 = .ok (.iaload, 1) := by decide +kernel
theorem dX10_moreBy_57 : decode cX10_moreBy 57 = .ok (.aload_n 0, 1) := by decide +kernel
theorem dX10_moreBy_58 : decode cX10_moreBy 58 = .ok (.iload 7, 2) := by decide +kernel
theorem dX10_moreBy_60 : decode cX10_moreBy 60 = .ok (.invokevirtual 350, 3) := by decide +kernel
theorem dX10_moreBy_63 : decode cX10_moreBy 63 = .ok (.if_icmp .ge 22, 3) := by decide +kernel
theorem dX10_moreBy_66 : decode cX10_moreBy 66 = .ok (.aload_n 0, 1) := by decide +kernel
theorem dX10_moreBy_67 : decode cX10_moreBy 67 = .ok (.getfield 119, 3) := by decide +kernel
theorem dX10_moreBy_70 : decode cX10_moreBy 70 = .ok (.iload 7, 2) := by decide +kernel
theorem dX10_moreBy_72 : decode cX10_moreBy 72 = .ok (.iaload, 1) := by decide +kernel
theorem dX10_moreBy_73 : decode cX10_moreBy 73 = .ok (.aload_n 0, 1) := by decide +kernel
theorem dX10_moreBy_74 : decode cX10_moreBy 74 = .ok (.iload 7, 2) := by decide +kernel
theorem dX10_moreBy_76 : decode cX10_moreBy 76 = .ok (.invokevirtual 350, 3) := by decide +kernel
theorem dX10_moreBy_79 : decode cX10_moreBy 79 = .ok (.if_icmp .lt 6, 3) := by decide +kernel
theorem dX10_moreBy_82 : decode cX10_moreBy 82 = .ok (.iinc 6 1, 3) := by decide +kernel
theorem dX10_moreBy_85 : decode cX10_moreBy 85 = .ok (.aload_n 0, 1) := by decide +kernel
theorem dX10_moreBy_86 : decode cX10_moreBy 86 = .ok (.getfield 116, 3) := by decide +kernel
theorem dX10_moreBy_89 : decode cX10_moreBy 89 = .ok (.iload 7, 2) := by decide +kernel
theorem dX10_moreBy_91 : decode cX10_moreBy 91 = .ok (.iaload, 1) := by decide +kernel
theorem dX10_moreBy_92 : decode cX10_moreBy 92 = .ok (.aload_n 0, 1) := by decide +kernel
theorem dX10_moreBy_93 : decode cX10_moreBy 93 = .ok (.iload 7, 2) := by decide +kernel
theorem dX10_moreBy_95 : decode cX10_moreBy 95 = .ok (.invokevirtual 353, 3) := by decide +kernel
theorem dX10_moreBy_98 : decode cX10_moreBy 98 = .ok (.if_icmp .gt 22, 3) := by decide +kernel
theorem dX10_moreBy_101 : decode cX10_moreBy 101 = .ok (.aload_n 0, 1) := by decide +kernel
theorem dX10_moreBy_102 : decode cX10_moreBy 102 = .ok (.getfield 119, 3) := by decide +kernel
theorem dX10_moreBy_105 : decode cX10_moreBy 105 = .ok (.iload 7, 2) := by decide +kernel
theorem dX10_moreBy_107 : decode cX10_moreBy 107 = .ok (.iaload, 1) := by decide +kernel
theorem dX10_moreBy_108 : decode cX10_moreBy 108 = .ok (.aload_n 0, 1) := by decide +kernel
theorem dX10_moreBy_109 : decode cX10_moreBy 109 = .ok (.iload 7, 2) := by decide +kernel
theorem dX10_moreBy_111 : decode cX10_moreBy 111 = .ok (.invokevirtual 353, 3) := by decide +kernel
theorem dX10_moreBy_114 : decode cX10_moreBy 114 = .ok (.if_icmp .le 6, 3) := by decide +kernel
theorem dX10_moreBy_117 : decode cX10_moreBy 117 = .ok (.iinc 6 (-1), 3) := by decide +kernel
theorem dX10_moreBy_120 : decode cX10_moreBy 120 = .ok (.iinc 7 1, 3) := by decide +kernel
theorem dX10_moreBy_123 : decode cX10_moreBy 123 = .ok (.goto (-101), 3) := by decide +kernel
theorem dX10_moreBy_126 : decode cX10_moreBy 126 = .ok (.iload 6, 2) := by decide +kernel
theorem dX10_moreBy_128 : decode cX10_moreBy 128 = .ok (.ireturn, 1) := by decide +kernel
theorem dX10_fillsWhere_0 : decode cX10_fillsWhere 0 = .ok (.aload_n 0, 1) := by decide +kernel
theorem dX10_fillsWhere_1 : decode cX10_fillsWhere 1 = .ok (.iconst (-1), 1) := by decide +kernel
theorem dX10_fillsWhere_2 : decode cX10_fillsWhere 2 = .ok (.putfield 411, 3) := by decide +kernel
theorem dX10_fillsWhere_5 : decode cX10_fillsWhere 5 = .ok (.iconst 0, 1) := by decide +kernel
theorem dX10_fillsWhere_6 : decode cX10_fillsWhere 6 = .ok (.istore 4, 2) := by decide +kernel
theorem dX10_fillsWhere_8 : decode cX10_fillsWhere 8 = .ok (.iload 4, 2) := by decide +kernel
theorem dX10_fillsWhere_10 : decode cX10_fillsWhere 10 = .ok (.iload_n 3, 1) := by decide +kernel
theorem dX10_fillsWhere_11 : decode cX10_fillsWhere 11 = .ok (.iadd, 1) := by decide +kernel
theorem dX10_fillsWhere_12 : decode cX10_fillsWhere 12 = .ok (.aload_n 0, 1) := by decide +kernel
theorem dX10_fillsWhere_13 : decode cX10_fillsWhere 13 = .ok (.getfield 43, 3) := by decide +kernel
theorem dX10_fillsWhere_16 : decode cX10_fillsWhere 16 = .ok (.aload_n 0, 1) := by decide +kernel
theorem dX10_fillsWhere_17 : decode cX10_fillsWhere 17 = .ok (.getfield 239, 3) := by decide +kernel
theorem dX10_fillsWhere_20 : decode cX10_fillsWhere 20 = .ok (.iaload, 1) := by decide +kernel
theorem dX10_fillsWhere_21 : decode cX10_fillsWhere 21 = .ok (.if_icmp .gt 84, 3) := by decide +kernel
theorem dX10_fillsWhere_24 : decode cX10_fillsWhere 24 = .ok (.iconst 0, 1) := by decide +kernel
theorem dX10_fillsWhere_25 : decode cX10_fillsWhere 25 = .ok (.istore 5, 2) := by decide +kernel
theorem dX10_fillsWhere_27 : decode cX10_fillsWhere 27 = .ok (.iload 5, 2) := by decide +kernel
theorem dX10_fillsWhere_29 : decode cX10_fillsWhere 29 = .ok (.iload_n 2, 1) := by decide +kernel
theorem dX10_fillsWhere_30 : decode cX10_fillsWhere 30 = .ok (.iadd, 1) := by decide +kernel
theorem dX10_fillsWhere_31 : decode cX10_fillsWhere 31 = .ok (.aload_n 0, 1) := by decide +kernel
theorem dX10_fillsWhere_32 : decode cX10_fillsWhere 32 = .ok (.getfield 46, 3) := by decide +kernel
theorem dX10_fillsWhere_35 : decode cX10_fillsWhere 35 = .ok (.aload_n 0, 1) := by decide +kernel
theorem dX10_fillsWhere_36 : decode cX10_fillsWhere 36 = .ok (.getfield 239, 3) := by decide +kernel
theorem dX10_fillsWhere_39 : decode cX10_fillsWhere 39 = .ok (.iaload, 1) := by decide +kernel
theorem dX10_fillsWhere_40 : decode cX10_fillsWhere 40 = .ok (.if_icmp .gt 59, 3) := by decide +kernel
theorem dX10_fillsWhere_43 : decode cX10_fillsWhere 43 = .ok (.aload_n 0, 1) := by decide +kernel
theorem dX10_fillsWhere_44 : decode cX10_fillsWhere 44 = .ok (.iload_n 1, 1) := by decide +kernel
theorem dX10_fillsWhere_45 : decode cX10_fillsWhere 45 = .ok (.iload_n 2, 1) := by decide +kernel
theorem dX10_fillsWhere_46 : decode cX10_fillsWhere 46 = .ok (.iload_n 3, 1) := by decide +kernel
theorem dX10_fillsWhere_47 : decode cX10_fillsWhere 47 = .ok (.iload 5, 2) := by decide +kernel
theorem dX10_fillsWhere_49 : decode cX10_fillsWhere 49 = .ok (.iload 4, 2) := by decide +kernel
theorem dX10_fillsWhere_51 : decode cX10_fillsWhere 51 = .ok (.invokevirtual 414, 3) := by decide +kernel
theorem dX10_fillsWhere_54 : decode cX10_fillsWhere 54 = .ok (.istore 6, 2) := by decide +kernel
theorem dX10_fillsWhere_56 : decode cX10_fillsWhere 56 = .ok (.aload_n 0, 1) := by decide +kernel
theorem dX10_fillsWhere_57 : decode cX10_fillsWhere 57 = .ok (.getfield 411, 3) := by decide +kernel
theorem dX10_fillsWhere_60 : decode cX10_fillsWhere 60 = .ok (.ifCond .lt 15, 3) := by decide +kernel
theorem dX10_fillsWhere_63 : decode cX10_fillsWhere 63 = .ok (.iload 6, 2) := by decide +kernel
theorem dX10_fillsWhere_65 : decode cX10_fillsWhere 65 = .ok (.aload_n 0, 1) := by decide +kernel
theorem dX10_fillsWhere_66 : decode cX10_fillsWhere 66 = .ok (.getfield 417, 3) := by decide +kernel
theorem dX10_fillsWhere_69 : decode cX10_fillsWhere 69 = .ok (.if_icmp .gt 6, 3) := by decide +kernel
theorem dX10_fillsWhere_72 : decode cX10_fillsWhere 72 = .ok (.goto 21, 3) := by decide +kernel
theorem dX10_fillsWhere_75 : decode cX10_fillsWhere 75 = .ok (.aload_n 0, 1) := by decide +kernel
theorem dX10_fillsWhere_76 : decode cX10_fillsWhere 76 = .ok (.iload 6, 2) := by decide +kernel
theorem dX10_fillsWhere_78 : decode cX10_fillsWhere 78 = .ok (.putfield 417, 3) := by decide +kernel
theorem dX10_fillsWhere_81 : decode cX10_fillsWhere 81 = .ok (.aload_n 0, 1) := by decide +kernel
theorem dX10_fillsWhere_82 : decode cX10_fillsWhere 82 = .ok (.bipush 8, 2) := by decide +kernel
theorem dX10_fillsWhere_84 : decode cX10_fillsWhere 84 = .ok (.iload 4, 2) := by decide +kernel
theorem dX10_fillsWhere_86 : decode cX10_fillsWhere 86 = .ok (.imul, 1) := by decide +kernel
theorem dX10_fillsWhere_87 : decode cX10_fillsWhere 87 = .ok (.iload 5, 2) := by decide +kernel
theorem dX10_fillsWhere_89 : decode cX10_fillsWhere 89 = .ok (.iadd, 1) := by decide +kernel
theorem dX10_fillsWhere_90 : decode cX10_fillsWhere 90 = .ok (.putfield 411, 3) := by decide +kernel
theorem dX10_fillsWhere_93 : decode cX10_fillsWhere 93 = .ok (.iinc 5 1, 3) := by decide +kernel
theorem dX10_fillsWhere_96 : decode cX10_fillsWhere 96 = .ok (.goto (-69), 3) := by decide +kernel
theorem dX10_fillsWhere_99 : decode cX10_fillsWhere 99 = .ok (.iinc 4 1, 3) := by decide +kernel
theorem dX10_fillsWhere_102 : decode cX10_fillsWhere 102 = .ok (.goto (-94), 3) := by decide +kernel
theorem dX10_fillsWhere_105 : decode cX10_fillsWhere 105 = .ok (.return_, 1) := by decide +kernel
theorem dX10_where_0 : decode cX10_where 0 = .ok (.aload_n 0, 1) := by decide +kernel
theorem dX10_where_1 : decode cX10_where 1 = .ok (.iload_n 1, 1) := by decide +kernel
theorem dX10_where_2 : decode cX10_where 2 = .ok (.iload_n 2, 1) := by decide +kernel
theorem dX10_where_3 : decode cX10_where 3 = .ok (.iload_n 3, 1) := by decide +kernel
theorem dX10_where_4 : decode cX10_where 4 = .ok (.invokevirtual 396, 3) := by decide +kernel
theorem dX10_where_7 : decode cX10_where 7 = .ok (.ifCond .eq 13, 3) := by decide +kernel
theorem dX10_where_10 : decode cX10_where 10 = .ok (.iload 4, 2) := by decide +kernel
theorem dX10_where_12 : decode cX10_where 12 = .ok (.iconst 0, 1) := by decide +kernel
theorem dX10_where_13 : decode cX10_where 13 = .ok (.iconst 2, 1) := by decide +kernel
theorem dX10_where_14 : decode cX10_where 14 = .ok (.invokestatic 323, 3) := by decide +kernel
theorem dX10_where_17 : decode cX10_where 17 = .ok (.ifCond .ne 7, 3) := by decide +kernel
theorem dX10_where_20 : decode cX10_where 20 = .ok (.sipush (-1000), 3) := by decide +kernel
theorem dX10_where_23 : decode cX10_where 23 = .ok (.ireturn, 1) := by decide +kernel
theorem dX10_where_24 : decode cX10_where 24 = .ok (.aload_n 0, 1) := by decide +kernel
theorem dX10_where_25 : decode cX10_where 25 = .ok (.iload_n 1, 1) := by decide +kernel
theorem dX10_where_26 : decode cX10_where 26 = .ok (.iload_n 2, 1) := by decide +kernel
theorem dX10_where_27 : decode cX10_where 27 = .ok (.iload_n 3, 1) := by decide +kernel
theorem dX10_where_28 : decode cX10_where 28 = .ok (.invokevirtual 420, 3) := by decide +kernel
theorem dX10_where_31 : decode cX10_where 31 = .ok (.aload_n 0, 1) := by decide +kernel
theorem dX10_where_32 : decode cX10_where 32 = .ok (.getfield 411, 3) := by decide +kernel
theorem dX10_where_35 : decode cX10_where 35 = .ok (.ifCond .ge 7, 3) := by decide +kernel
theorem dX10_where_38 : decode cX10_where 38 = .ok (.sipush (-1000), 3) := by decide +kernel
theorem dX10_where_41 : decode cX10_where 41 = .ok (.ireturn, 1) := by decide +kernel
theorem dX10_where_42 : decode cX10_where 42 = .ok (.iload 4, 2) := by decide +kernel
theorem dX10_where_44 : decode cX10_where 44 = .ok (.ifCond .ne 10, 3) := by decide +kernel
theorem dX10_where_47 : decode cX10_where 47 = .ok (.aload_n 0, 1) := by decide +kernel
theorem dX10_where_48 : decode cX10_where 48 = .ok (.getfield 417, 3) := by decide +kernel
theorem dX10_where_51 : decode cX10_where 51 = .ok (.goto 26, 3) := by decide +kernel
theorem dX10_where_54 : decode cX10_where 54 = .ok (.iload 4, 2) := by decide +kernel
theorem dX10_where_56 : decode cX10_where 56 = .ok (.iconst 1, 1) := by decide +kernel
theorem dX10_where_57 : decode cX10_where 57 = .ok (.if_icmp .ne 13, 3) := by decide +kernel
theorem dX10_where_60 : decode cX10_where 60 = .ok (.aload_n 0, 1) := by decide +kernel
theorem dX10_where_61 : decode cX10_where 61 = .ok (.getfield 411, 3) := by decide +kernel
theorem dX10_where_64 : decode cX10_where 64 = .ok (.bipush 8, 2) := by decide +kernel
theorem dX10_where_66 : decode cX10_where 66 = .ok (.irem, 1) := by decide +kernel
theorem dX10_where_67 : decode cX10_where 67 = .ok (.goto 10, 3) := by decide +kernel
theorem dX10_where_70 : decode cX10_where 70 = .ok (.aload_n 0, 1) := by decide +kernel
theorem dX10_where_71 : decode cX10_where 71 = .ok (.getfield 411, 3) := by decide +kernel
theorem dX10_where_74 : decode cX10_where 74 = .ok (.bipush 8, 2) := by decide +kernel
theorem dX10_where_76 : decode cX10_where 76 = .ok (.idiv, 1) := by decide +kernel
theorem dX10_where_77 : decode cX10_where 77 = .ok (.ireturn, 1) := by decide +kernel
theorem dX10_isFree_0 : decode cX10_isFree 0 = .ok (.iconst 1, 1) := by decide +kernel
theorem dX10_isFree_1 : decode cX10_isFree 1 = .ok (.aload_n 0, 1) := by decide +kernel
theorem dX10_isFree_2 : decode cX10_isFree 2 = .ok (.getfield 125, 3) := by decide +kernel
theorem dX10_isFree_5 : decode cX10_isFree 5 = .ok (.iload_n 1, 1) := by decide +kernel
theorem dX10_isFree_6 : decode cX10_isFree 6 = .ok (.iaload, 1) := by decide +kernel
theorem dX10_isFree_7 : decode cX10_isFree 7 = .ok (.ishl, 1) := by decide +kernel
theorem dX10_isFree_8 : decode cX10_isFree 8 = .ok (.iconst 1, 1) := by decide +kernel
theorem dX10_isFree_9 : decode cX10_isFree 9 = .ok (.isub, 1) := by decide +kernel
theorem dX10_isFree_10 : decode cX10_isFree 10 = .ok (.iload_n 2, 1) := by decide +kernel
theorem dX10_isFree_11 : decode cX10_isFree 11 = .ok (.bipush 8, 2) := by decide +kernel
theorem dX10_isFree_13 : decode cX10_isFree 13 = .ok (.irem, 1) := by decide +kernel
theorem dX10_isFree_14 : decode cX10_isFree 14 = .ok (.ishl, 1) := by decide +kernel
theorem dX10_isFree_15 : decode cX10_isFree 15 = .ok (.istore_n 3, 1) := by decide +kernel
theorem dX10_isFree_16 : decode cX10_isFree 16 = .ok (.iload_n 2, 1) := by decide +kernel
theorem dX10_isFree_17 : decode cX10_isFree 17 = .ok (.bipush 8, 2) := by decide +kernel
theorem dX10_isFree_19 : decode cX10_isFree 19 = .ok (.idiv, 1) := by decide +kernel
theorem dX10_isFree_20 : decode cX10_isFree 20 = .ok (.istore 4, 2) := by decide +kernel
theorem dX10_isFree_22 : decode cX10_isFree 22 = .ok (.iload 4, 2) := by decide +kernel
theorem dX10_isFree_24 : decode cX10_isFree 24 = .ok (.iload_n 2, 1) := by decide +kernel
theorem dX10_isFree_25 : decode cX10_isFree 25 = .ok (.bipush 8, 2) := by decide +kernel
theorem dX10_isFree_27 : decode cX10_isFree 27 = .ok (.idiv, 1) := by decide +kernel
theorem dX10_isFree_28 : decode cX10_isFree 28 = .ok (.aload_n 0, 1) := by decide +kernel
theorem dX10_isFree_29 : decode cX10_isFree 29 = .ok (.getfield 128, 3) := by decide +kernel
theorem dX10_isFree_32 : decode cX10_isFree 32 = .ok (.iload_n 1, 1) := by decide +kernel
theorem dX10_isFree_33 : decode cX10_isFree 33 = .ok (.iaload, 1) := by decide +kernel
theorem dX10_isFree_34 : decode cX10_isFree 34 = .ok (.iadd, 1) := by decide +kernel
theorem dX10_isFree_35 : decode cX10_isFree 35 = .ok (.if_icmp .ge 23, 3) := by decide +kernel
theorem dX10_isFree_38 : decode cX10_isFree 38 = .ok (.aload_n 0, 1) := by decide +kernel
theorem dX10_isFree_39 : decode cX10_isFree 39 = .ok (.getfield 134, 3) := by decide +kernel
theorem dX10_isFree_42 : decode cX10_isFree 42 = .ok (.iload 4, 2) := by decide +kernel
theorem dX10_isFree_44 : decode cX10_isFree 44 = .ok (.iaload, 1) := by decide +kernel
theorem dX10_isFree_45 : decode cX10_isFree 45 = .ok (.iload_n 3, 1) := by decide +kernel
theorem dX10_isFree_46 : decode cX10_isFree 46 = .ok (.iand, 1) := by decide +kernel
theorem dX10_isFree_47 : decode cX10_isFree 47 = .ok (.ifCond .eq 5, 3) := by decide +kernel
theorem dX10_isFree_50 : decode cX10_isFree 50 = .ok (.iconst 0, 1) := by decide +kernel
theorem dX10_isFree_51 : decode cX10_isFree 51 = .ok (.ireturn, 1) := by decide +kernel
theorem dX10_isFree_52 : decode cX10_isFree 52 = .ok (.iinc 4 1, 3) := by decide +kernel
theorem dX10_isFree_55 : decode cX10_isFree 55 = .ok (.goto (-33), 3) := by decide +kernel
theorem dX10_isFree_58 : decode cX10_isFree 58 = .ok (.iconst 1, 1) := by decide +kernel
theorem dX10_isFree_59 : decode cX10_isFree 59 = .ok (.ireturn, 1) := by decide +kernel
theorem dX10_flips_0 : decode cX10_flips 0 = .ok (.iconst 1, 1) := by decide +kernel
theorem dX10_flips_1 : decode cX10_flips 1 = .ok (.aload_n 0, 1) := by decide +kernel
theorem dX10_flips_2 : decode cX10_flips 2 = .ok (.getfield 125, 3) := by decide +kernel
theorem dX10_flips_5 : decode cX10_flips 5 = .ok (.iload_n 1, 1) := by decide +kernel
theorem dX10_flips_6 : decode cX10_flips 6 = .ok (.iaload, 1) := by decide +kernel
theorem dX10_flips_7 : decode cX10_flips 7 = .ok (.ishl, 1) := by decide +kernel
theorem dX10_flips_8 : decode cX10_flips 8 = .ok (.iconst 1, 1) := by decide +kernel
theorem dX10_flips_9 : decode cX10_flips 9 = .ok (.isub, 1) := by decide +kernel
theorem dX10_flips_10 : decode cX10_flips 10 = .ok (.iload_n 2, 1) := by decide +kernel
theorem dX10_flips_11 : decode cX10_flips 11 = .ok (.bipush 8, 2) := by decide +kernel
theorem dX10_flips_13 : decode cX10_flips 13 = .ok (.irem, 1) := by decide +kernel
theorem dX10_flips_14 : decode cX10_flips 14 = .ok (.ishl, 1) := by decide +kernel
theorem dX10_flips_15 : decode cX10_flips 15 = .ok (.istore_n 3, 1) := by decide +kernel
theorem dX10_flips_16 : decode cX10_flips 16 = .ok (.iload_n 2, 1) := by decide +kernel
theorem dX10_flips_17 : decode cX10_flips 17 = .ok (.bipush 8, 2) := by decide +kernel
theorem dX10_flips_19 : decode cX10_flips 19 = .ok (.idiv, 1) := by decide +kernel
theorem dX10_flips_20 : decode cX10_flips 20 = .ok (.istore 4, 2) := by decide +kernel
theorem dX10_flips_22 : decode cX10_flips 22 = .ok (.iload 4, 2) := by decide +kernel
theorem dX10_flips_24 : decode cX10_flips 24 = .ok (.iload_n 2, 1) := by decide +kernel
theorem dX10_flips_25 : decode cX10_flips 25 = .ok (.bipush 8, 2) := by decide +kernel
theorem dX10_flips_27 : decode cX10_flips 27 = .ok (.idiv, 1) := by decide +kernel
theorem dX10_flips_28 : decode cX10_flips 28 = .ok (.aload_n 0, 1) := by decide +kernel
theorem dX10_flips_29 : decode cX10_flips 29 = .ok (.getfield 128, 3) := by decide +kernel
theorem dX10_flips_32 : decode cX10_flips 32 = .ok (.iload_n 1, 1) := by decide +kernel
theorem dX10_flips_33 : decode cX10_flips 33 = .ok (.iaload, 1) := by decide +kernel
theorem dX10_flips_34 : decode cX10_flips 34 = .ok (.iadd, 1) := by decide +kernel
theorem dX10_flips_35 : decode cX10_flips 35 = .ok (.if_icmp .ge 20, 3) := by decide +kernel
theorem dX10_flips_38 : decode cX10_flips 38 = .ok (.aload_n 0, 1) := by decide +kernel
theorem dX10_flips_39 : decode cX10_flips 39 = .ok (.getfield 134, 3) := by decide +kernel
theorem dX10_flips_42 : decode cX10_flips 42 = .ok (.iload 4, 2) := by decide +kernel
theorem dX10_flips_44 : decode cX10_flips 44 = .ok (.dup2, 1) := by decide +kernel
theorem dX10_flips_45 : decode cX10_flips 45 = .ok (.iaload, 1) := by decide +kernel
theorem dX10_flips_46 : decode cX10_flips 46 = .ok (.iload_n 3, 1) := by decide +kernel
theorem dX10_flips_47 : decode cX10_flips 47 = .ok (.ixor, 1) := by decide +kernel
theorem dX10_flips_48 : decode cX10_flips 48 = .ok (.iastore, 1) := by decide +kernel
theorem dX10_flips_49 : decode cX10_flips 49 = .ok (.iinc 4 1, 3) := by decide +kernel
theorem dX10_flips_52 : decode cX10_flips 52 = .ok (.goto (-30), 3) := by decide +kernel
theorem dX10_flips_55 : decode cX10_flips 55 = .ok (.return_, 1) := by decide +kernel
theorem dX10_nextPlace_0 : decode cX10_nextPlace 0 = .ok (.iload_n 2, 1) := by decide +kernel
theorem dX10_nextPlace_1 : decode cX10_nextPlace 1 = .ok (.istore 4, 2) := by decide +kernel
theorem dX10_nextPlace_3 : decode cX10_nextPlace 3 = .ok (.iload 4, 2) := by decide +kernel
theorem dX10_nextPlace_5 : decode cX10_nextPlace 5 = .ok (.bipush 8, 2) := by decide +kernel
theorem dX10_nextPlace_7 : decode cX10_nextPlace 7 = .ok (.iload_n 3, 1) := by decide +kernel
theorem dX10_nextPlace_8 : decode cX10_nextPlace 8 = .ok (.aload_n 0, 1) := by decide +kernel
theorem dX10_nextPlace_9 : decode cX10_nextPlace 9 = .ok (.getfield 128, 3) := by decide +kernel
theorem dX10_nextPlace_12 : decode cX10_nextPlace 12 = .ok (.iload_n 1, 1) := by decide +kernel
theorem dX10_nextPlace_13 : decode cX10_nextPlace 13 = .ok (.iaload, 1) := by decide +kernel
theorem dX10_nextPlace_14 : decode cX10_nextPlace 14 = .ok (.isub, 1) := by decide +kernel
theorem dX10_nextPlace_15 : decode cX10_nextPlace 15 = .ok (.iconst 1, 1) := by decide +kernel
theorem dX10_nextPlace_16 : decode cX10_nextPlace 16 = .ok (.iadd, 1) := by decide +kernel
theorem dX10_nextPlace_17 : decode cX10_nextPlace 17 = .ok (.imul, 1) := by decide +kernel
theorem dX10_nextPlace_18 : decode cX10_nextPlace 18 = .ok (.if_icmp .ge 39, 3) := by decide +kernel
theorem dX10_nextPlace_21 : decode cX10_nextPlace 21 = .ok (.iload 4, 2) := by decide +kernel
theorem dX10_nextPlace_23 : decode cX10_nextPlace 23 = .ok (.bipush 8, 2) := by decide +kernel
theorem dX10_nextPlace_25 : decode cX10_nextPlace 25 = .ok (.irem, 1) := by decide +kernel
theorem dX10_nextPlace_26 : decode cX10_nextPlace 26 = .ok (.aload_n 0, 1) := by decide +kernel
theorem dX10_nextPlace_27 : decode cX10_nextPlace 27 = .ok (.getfield 125, 3) := by decide +kernel
theorem dX10_nextPlace_30 : decode cX10_nextPlace 30 = .ok (.iload_n 1, 1) := by decide +kernel
theorem dX10_nextPlace_31 : decode cX10_nextPlace 31 = .ok (.iaload, 1) := by decide +kernel
theorem dX10_nextPlace_32 : decode cX10_nextPlace 32 = .ok (.iadd, 1) := by decide +kernel
theorem dX10_nextPlace_33 : decode cX10_nextPlace 33 = .ok (.bipush 8, 2) := by decide +kernel
theorem dX10_nextPlace_35 : decode cX10_nextPlace 35 = .ok (.if_icmp .gt 16, 3) := by decide +kernel
theorem dX10_nextPlace_38 : decode cX10_nextPlace 38 = .ok (.aload_n 0, 1) := by decide +kernel
theorem dX10_nextPlace_39 : decode cX10_nextPlace 39 = .ok (.iload_n 1, 1) := by decide +kernel
theorem dX10_nextPlace_40 : decode cX10_nextPlace 40 = .ok (.iload 4, 2) := by decide +kernel
theorem dX10_nextPlace_42 : decode cX10_nextPlace 42 = .ok (.invokevirtual 424, 3) := by decide +kernel
theorem dX10_nextPlace_45 : decode cX10_nextPlace 45 = .ok (.ifCond .eq 6, 3) := by decide +kernel
theorem dX10_nextPlace_48 : decode cX10_nextPlace 48 = .ok (.iload 4, 2) := by decide +kernel
theorem dX10_nextPlace_50 : decode cX10_nextPlace 50 = .ok (.ireturn, 1) := by decide +kernel
theorem dX10_nextPlace_51 : decode cX10_nextPlace 51 = .ok (.iinc 4 1, 3) := by decide +kernel
theorem dX10_nextPlace_54 : decode cX10_nextPlace 54 = .ok (.goto (-51), 3) := by decide +kernel
theorem dX10_nextPlace_57 : decode cX10_nextPlace 57 = .ok (.iconst (-1), 1) := by decide +kernel
theorem dX10_nextPlace_58 : decode cX10_nextPlace 58 = .ok (.ireturn, 1) := by decide +kernel
theorem dX10_goesIn_0 : decode cX10_goesIn 0 = .ok (.iconst 0, 1) := by decide +kernel
theorem dX10_goesIn_1 : decode cX10_goesIn 1 = .ok (.istore_n 2, 1) := by decide +kernel
theorem dX10_goesIn_2 : decode cX10_goesIn 2 = .ok (.iload_n 2, 1) := by decide +kernel
theorem dX10_goesIn_3 : decode cX10_goesIn 3 = .ok (.bipush 24, 2) := by decide +kernel
theorem dX10_goesIn_5 : decode cX10_goesIn 5 = .ok (.if_icmp .ge 16, 3) := by decide +kernel
theorem dX10_goesIn_8 : decode cX10_goesIn 8 = .ok (.aload_n 0, 1) := by decide +kernel
theorem dX10_goesIn_9 : decode cX10_goesIn 9 = .ok (.getfield 134, 3) := by decide +kernel
theorem dX10_goesIn_12 : decode cX10_goesIn 12 = .ok (.iload_n 2, 1) := by decide +kernel
theorem dX10_goesIn_13 : decode cX10_goesIn 13 = .ok (.iconst 0, 1) := by decide +kernel
theorem dX10_goesIn_14 : decode cX10_goesIn 14 = .ok (.iastore, 1) := by decide +kernel
theorem dX10_goesIn_15 : decode cX10_goesIn 15 = .ok (.iinc 2 1, 3) := by decide +kernel
theorem dX10_goesIn_18 : decode cX10_goesIn 18 = .ok (.goto (-16), 3) := by decide +kernel
theorem dX10_goesIn_21 : decode cX10_goesIn 21 = .ok (.iconst 0, 1) := by decide +kernel
theorem dX10_goesIn_22 : decode cX10_goesIn 22 = .ok (.istore_n 2, 1) := by decide +kernel
theorem dX10_goesIn_23 : decode cX10_goesIn 23 = .ok (.iconst 0, 1) := by decide +kernel
theorem dX10_goesIn_24 : decode cX10_goesIn 24 = .ok (.istore_n 3, 1) := by decide +kernel
theorem dX10_goesIn_25 : decode cX10_goesIn 25 = .ok (.iload_n 2, 1) := by decide +kernel
theorem dX10_goesIn_26 : decode cX10_goesIn 26 = .ok (.ifCond .lt 80, 3) := by decide +kernel
theorem dX10_goesIn_29 : decode cX10_goesIn 29 = .ok (.iload_n 2, 1) := by decide +kernel
theorem dX10_goesIn_30 : decode cX10_goesIn 30 = .ok (.aload_n 0, 1) := by decide +kernel
theorem dX10_goesIn_31 : decode cX10_goesIn 31 = .ok (.getfield 427, 3) := by decide +kernel
theorem dX10_goesIn_34 : decode cX10_goesIn 34 = .ok (.if_icmp .ge 72, 3) := by decide +kernel
theorem dX10_goesIn_37 : decode cX10_goesIn 37 = .ok (.aload_n 0, 1) := by decide +kernel
theorem dX10_goesIn_38 : decode cX10_goesIn 38 = .ok (.iload_n 2, 1) := by decide +kernel
theorem dX10_goesIn_39 : decode cX10_goesIn 39 = .ok (.iload_n 3, 1) := by decide +kernel
theorem dX10_goesIn_40 : decode cX10_goesIn 40 = .ok (.iload_n 1, 1) := by decide +kernel
theorem dX10_goesIn_41 : decode cX10_goesIn 41 = .ok (.invokevirtual 430, 3) := by decide +kernel
theorem dX10_goesIn_44 : decode cX10_goesIn 44 = .ok (.istore 4, 2) := by decide +kernel
theorem dX10_goesIn_46 : decode cX10_goesIn 46 = .ok (.iload 4, 2) := by decide +kernel
theorem dX10_goesIn_48 : decode cX10_goesIn 48 = .ok (.ifCond .lt 26, 3) := by decide +kernel
theorem dX10_goesIn_51 : decode cX10_goesIn 51 = .ok (.aload_n 0, 1) := by decide +kernel
theorem dX10_goesIn_52 : decode cX10_goesIn 52 = .ok (.getfield 131, 3) := by decide +kernel
theorem dX10_goesIn_55 : decode cX10_goesIn 55 = .ok (.iload_n 2, 1) := by decide +kernel
theorem dX10_goesIn_56 : decode cX10_goesIn 56 = .ok (.iload 4, 2) := by decide +kernel
theorem dX10_goesIn_58 : decode cX10_goesIn 58 = .ok (.iastore, 1) := by decide +kernel
theorem dX10_goesIn_59 : decode cX10_goesIn 59 = .ok (.aload_n 0, 1) := by decide +kernel
theorem dX10_goesIn_60 : decode cX10_goesIn 60 = .ok (.iload_n 2, 1) := by decide +kernel
theorem dX10_goesIn_61 : decode cX10_goesIn 61 = .ok (.iload 4, 2) := by decide +kernel
theorem dX10_goesIn_63 : decode cX10_goesIn 63 = .ok (.invokevirtual 433, 3) := by decide +kernel
theorem dX10_goesIn_66 : decode cX10_goesIn 66 = .ok (.iinc 2 1, 3) := by decide +kernel
theorem dX10_goesIn_69 : decode cX10_goesIn 69 = .ok (.iconst 0, 1) := by decide +kernel
theorem dX10_goesIn_70 : decode cX10_goesIn 70 = .ok (.istore_n 3, 1) := by decide +kernel
theorem dX10_goesIn_71 : decode cX10_goesIn 71 = .ok (.goto (-46), 3) := by decide +kernel
theorem dX10_goesIn_74 : decode cX10_goesIn 74 = .ok (.iinc 2 (-1), 3) := by decide +kernel
theorem dX10_goesIn_77 : decode cX10_goesIn 77 = .ok (.iload_n 2, 1) := by decide +kernel
theorem dX10_goesIn_78 : decode cX10_goesIn 78 = .ok (.ifCond .ge 5, 3) := by decide +kernel
theorem dX10_goesIn_81 : decode cX10_goesIn 81 = .ok (.iconst 0, 1) := by decide +kernel
theorem dX10_goesIn_82 : decode cX10_goesIn 82 = .ok (.ireturn, 1) := by decide +kernel
theorem dX10_goesIn_83 : decode cX10_goesIn 83 = .ok (.aload_n 0, 1) := by decide +kernel
theorem dX10_goesIn_84 : decode cX10_goesIn 84 = .ok (.iload_n 2, 1) := by decide +kernel
theorem dX10_goesIn_85 : decode cX10_goesIn 85 = .ok (.aload_n 0, 1) := by decide +kernel
theorem dX10_goesIn_86 : decode cX10_goesIn 86 = .ok (.getfield 131, 3) := by decide +kernel
theorem dX10_goesIn_89 : decode cX10_goesIn 89 = .ok (.iload_n 2, 1) := by decide +kernel
theorem dX10_goesIn_90 : decode cX10_goesIn 90 = .ok (.iaload, 1) := by decide +kernel
theorem dX10_goesIn_91 : decode cX10_goesIn 91 = .ok (.invokevirtual 433, 3) := by decide +kernel
theorem dX10_goesIn_94 : decode cX10_goesIn 94 = .ok (.aload_n 0, 1) := by decide +kernel
theorem dX10_goesIn_95 : decode cX10_goesIn 95 = .ok (.getfield 131, 3) := by decide +kernel
theorem dX10_goesIn_98 : decode cX10_goesIn 98 = .ok (.iload_n 2, 1) := by decide +kernel
theorem dX10_goesIn_99 : decode cX10_goesIn 99 = .ok (.iaload, 1) := by decide +kernel
theorem dX10_goesIn_100 : decode cX10_goesIn 100 = .ok (.iconst 1, 1) := by decide +kernel
theorem dX10_goesIn_101 : decode cX10_goesIn 101 = .ok (.iadd, 1) := by decide +kernel
theorem dX10_goesIn_102 : decode cX10_goesIn 102 = .ok (.istore_n 3, 1) := by decide +kernel
theorem dX10_goesIn_103 : decode cX10_goesIn 103 = .ok (.goto (-78), 3) := by decide +kernel
theorem dX10_goesIn_106 : decode cX10_goesIn 106 = .ok (.iconst 1, 1) := by decide +kernel
theorem dX10_goesIn_107 : decode cX10_goesIn 107 = .ok (.ireturn, 1) := by decide +kernel
theorem dX10_adds_0 : decode cX10_adds 0 = .ok (.iload_n 1, 1) := by decide +kernel
theorem dX10_adds_1 : decode cX10_adds 1 = .ok (.bipush 10, 2) := by decide +kernel
theorem dX10_adds_3 : decode cX10_adds 3 = .ok (.idiv, 1) := by decide +kernel
theorem dX10_adds_4 : decode cX10_adds 4 = .ok (.istore_n 2, 1) := by decide +kernel
theorem dX10_adds_5 : decode cX10_adds 5 = .ok (.iload_n 1, 1) := by decide +kernel
theorem dX10_adds_6 : decode cX10_adds 6 = .ok (.bipush 10, 2) := by decide +kernel
theorem dX10_adds_8 : decode cX10_adds 8 = .ok (.irem, 1) := by decide +kernel
theorem dX10_adds_9 : decode cX10_adds 9 = .ok (.istore_n 3, 1) := by decide +kernel
theorem dX10_adds_10 : decode cX10_adds 10 = .ok (.iload_n 2, 1) := by decide +kernel
theorem dX10_adds_11 : decode cX10_adds 11 = .ok (.iconst 1, 1) := by decide +kernel
theorem dX10_adds_12 : decode cX10_adds 12 = .ok (.bipush 8, 2) := by decide +kernel
theorem dX10_adds_14 : decode cX10_adds 14 = .ok (.invokestatic 323, 3) := by decide +kernel
theorem dX10_adds_17 : decode cX10_adds 17 = .ok (.ifCond .eq 13, 3) := by decide +kernel
theorem dX10_adds_20 : decode cX10_adds 20 = .ok (.iload_n 3, 1) := by decide +kernel
theorem dX10_adds_21 : decode cX10_adds 21 = .ok (.iconst 1, 1) := by decide +kernel
theorem dX10_adds_22 : decode cX10_adds 22 = .ok (.bipush 6, 2) := by decide +kernel
theorem dX10_adds_24 : decode cX10_adds 24 = .ok (.invokestatic 323, 3) := by decide +kernel
theorem dX10_adds_27 : decode cX10_adds 27 = .ok (.ifCond .ne 5, 3) := by decide +kernel
theorem dX10_adds_30 : decode cX10_adds 30 = .ok (.iconst 0, 1) := by decide +kernel
theorem dX10_adds_31 : decode cX10_adds 31 = .ok (.ireturn, 1) := by decide +kernel
theorem dX10_adds_32 : decode cX10_adds 32 = .ok (.aload_n 0, 1) := by decide +kernel
theorem dX10_adds_33 : decode cX10_adds 33 = .ok (.getfield 125, 3) := by decide +kernel
theorem dX10_adds_36 : decode cX10_adds 36 = .ok (.aload_n 0, 1) := by decide +kernel
theorem dX10_adds_37 : decode cX10_adds 37 = .ok (.getfield 427, 3) := by decide +kernel
theorem dX10_adds_40 : decode cX10_adds 40 = .ok (.iload_n 2, 1) := by decide +kernel
theorem dX10_adds_41 : decode cX10_adds 41 = .ok (.iastore, 1) := by decide +kernel
theorem dX10_adds_42 : decode cX10_adds 42 = .ok (.aload_n 0, 1) := by decide +kernel
theorem dX10_adds_43 : decode cX10_adds 43 = .ok (.getfield 128, 3) := by decide +kernel
theorem dX10_adds_46 : decode cX10_adds 46 = .ok (.aload_n 0, 1) := by decide +kernel
theorem dX10_adds_47 : decode cX10_adds 47 = .ok (.getfield 427, 3) := by decide +kernel
theorem dX10_adds_50 : decode cX10_adds 50 = .ok (.iload_n 3, 1) := by decide +kernel
theorem dX10_adds_51 : decode cX10_adds 51 = .ok (.iastore, 1) := by decide +kernel
theorem dX10_adds_52 : decode cX10_adds 52 = .ok (.aload_n 0, 1) := by decide +kernel
theorem dX10_adds_53 : decode cX10_adds 53 = .ok (.dup, 1) := by decide +kernel
theorem dX10_adds_54 : decode cX10_adds 54 = .ok (.getfield 427, 3) := by decide +kernel
theorem dX10_adds_57 : decode cX10_adds 57 = .ok (.iconst 1, 1) := by decide +kernel
theorem dX10_adds_58 : decode cX10_adds 58 = .ok (.iadd, 1) := by decide +kernel
theorem dX10_adds_59 : decode cX10_adds 59 = .ok (.putfield 427, 3) := by decide +kernel
theorem dX10_adds_62 : decode cX10_adds 62 = .ok (.iconst 1, 1) := by decide +kernel
theorem dX10_adds_63 : decode cX10_adds 63 = .ok (.ireturn, 1) := by decide +kernel
theorem dX10_cut_0 : decode cX10_cut 0 = .ok (.aload_n 0, 1) := by decide +kernel
theorem dX10_cut_1 : decode cX10_cut 1 = .ok (.iconst 0, 1) := by decide +kernel
theorem dX10_cut_2 : decode cX10_cut 2 = .ok (.putfield 427, 3) := by decide +kernel
theorem dX10_cut_5 : decode cX10_cut 5 = .ok (.aload_n 0, 1) := by decide +kernel
theorem dX10_cut_6 : decode cX10_cut 6 = .ok (.iload_n 1, 1) := by decide +kernel
theorem dX10_cut_7 : decode cX10_cut 7 = .ok (.invokevirtual 436, 3) := by decide +kernel
theorem dX10_cut_10 : decode cX10_cut 10 = .ok (.ifCond .ne 5, 3) := by decide +kernel
theorem dX10_cut_13 : decode cX10_cut 13 = .ok (.iconst (-1), 1) := by decide +kernel
theorem dX10_cut_14 : decode cX10_cut 14 = .ok (.ireturn, 1) := by decide +kernel
theorem dX10_cut_15 : decode cX10_cut 15 = .ok (.iload_n 2, 1) := by decide +kernel
theorem dX10_cut_16 : decode cX10_cut 16 = .ok (.ifCond .eq 11, 3) := by decide +kernel
theorem dX10_cut_19 : decode cX10_cut 19 = .ok (.aload_n 0, 1) := by decide +kernel
theorem dX10_cut_20 : decode cX10_cut 20 = .ok (.iload_n 2, 1) := by decide +kernel
theorem dX10_cut_21 : decode cX10_cut 21 = .ok (.invokevirtual 436, 3) := by decide +kernel
theorem dX10_cut_24 : decode cX10_cut 24 = .ok (.ifCond .eq 46, 3) := by decide +kernel
theorem dX10_cut_27 : decode cX10_cut 27 = .ok (.iload_n 2, 1) := by decide +kernel
theorem dX10_cut_28 : decode cX10_cut 28 = .ok (.ifCond .ne 7, 3) := by decide +kernel
theorem dX10_cut_31 : decode cX10_cut 31 = .ok (.iload_n 3, 1) := by decide +kernel
theorem dX10_cut_32 : decode cX10_cut 32 = .ok (.ifCond .ne 38, 3) := by decide +kernel
theorem dX10_cut_35 : decode cX10_cut 35 = .ok (.iload_n 3, 1) := by decide +kernel
theorem dX10_cut_36 : decode cX10_cut 36 = .ok (.ifCond .eq 11, 3) := by decide +kernel
theorem dX10_cut_39 : decode cX10_cut 39 = .ok (.aload_n 0, 1) := by decide +kernel
theorem dX10_cut_40 : decode cX10_cut 40 = .ok (.iload_n 3, 1) := by decide +kernel
theorem dX10_cut_41 : decode cX10_cut 41 = .ok (.invokevirtual 436, 3) := by decide +kernel
theorem dX10_cut_44 : decode cX10_cut 44 = .ok (.ifCond .eq 26, 3) := by decide +kernel
theorem dX10_cut_47 : decode cX10_cut 47 = .ok (.iload_n 3, 1) := by decide +kernel
theorem dX10_cut_48 : decode cX10_cut 48 = .ok (.ifCond .ne 8, 3) := by decide +kernel
theorem dX10_cut_51 : decode cX10_cut 51 = .ok (.iload 4, 2) := by decide +kernel
theorem dX10_cut_53 : decode cX10_cut 53 = .ok (.ifCond .ne 17, 3) := by decide +kernel
theorem dX10_cut_56 : decode cX10_cut 56 = .ok (.iload 4, 2) := by decide +kernel
theorem dX10_cut_58 : decode cX10_cut 58 = .ok (.ifCond .eq 14, 3) := by decide +kernel
theorem dX10_cut_61 : decode cX10_cut 61 = .ok (.aload_n 0, 1) := by decide +kernel
theorem dX10_cut_62 : decode cX10_cut 62 = .ok (.iload 4, 2) := by decide +kernel
theorem dX10_cut_64 : decode cX10_cut 64 = .ok (.invokevirtual 436, 3) := by decide +kernel
theorem dX10_cut_67 : decode cX10_cut 67 = .ok (.ifCond .ne 5, 3) := by decide +kernel
theorem dX10_cut_70 : decode cX10_cut 70 = .ok (.iconst (-1), 1) := by decide +kernel
theorem dX10_cut_71 : decode cX10_cut 71 = .ok (.ireturn, 1) := by decide +kernel
theorem dX10_cut_72 : decode cX10_cut 72 = .ok (.iconst 0, 1) := by decide +kernel
theorem dX10_cut_73 : decode cX10_cut 73 = .ok (.istore 5, 2) := by decide +kernel
theorem dX10_cut_75 : decode cX10_cut 75 = .ok (.iconst 0, 1) := by decide +kernel
theorem dX10_cut_76 : decode cX10_cut 76 = .ok (.istore 6, 2) := by decide +kernel
theorem dX10_cut_78 : decode cX10_cut 78 = .ok (.iconst 0, 1) := by decide +kernel
theorem dX10_cut_79 : decode cX10_cut 79 = .ok (.istore 7, 2) := by decide +kernel
theorem dX10_cut_81 : decode cX10_cut 81 = .ok (.iconst 0, 1) := by decide +kernel
theorem dX10_cut_82 : decode cX10_cut 82 = .ok (.istore 8, 2) := by decide +kernel
theorem dX10_cut_84 : decode cX10_cut 84 = .ok (.iload 8, 2) := by decide +kernel
theorem dX10_cut_86 : decode cX10_cut 86 = .ok (.aload_n 0, 1) := by decide +kernel
theorem dX10_cut_87 : decode cX10_cut 87 = .ok (.getfield 427, 3) := by decide +kernel
theorem dX10_cut_90 : decode cX10_cut 90 = .ok (.if_icmp .ge 73, 3) := by decide +kernel
theorem dX10_cut_93 : decode cX10_cut 93 = .ok (.iload 5, 2) := by decide +kernel
theorem dX10_cut_95 : decode cX10_cut 95 = .ok (.aload_n 0, 1) := by decide +kernel
theorem dX10_cut_96 : decode cX10_cut 96 = .ok (.getfield 125, 3) := by decide +kernel
theorem dX10_cut_99 : decode cX10_cut 99 = .ok (.iload 8, 2) := by decide +kernel
theorem dX10_cut_101 : decode cX10_cut 101 = .ok (.iaload, 1) := by decide +kernel
theorem dX10_cut_102 : decode cX10_cut 102 = .ok (.aload_n 0, 1) := by decide +kernel
theorem dX10_cut_103 : decode cX10_cut 103 = .ok (.getfield 128, 3) := by decide +kernel
theorem dX10_cut_106 : decode cX10_cut 106 = .ok (.iload 8, 2) := by decide +kernel
theorem dX10_cut_108 : decode cX10_cut 108 = .ok (.iaload, 1) := by decide +kernel
theorem dX10_cut_109 : decode cX10_cut 109 = .ok (.imul, 1) := by decide +kernel
theorem dX10_cut_110 : decode cX10_cut 110 = .ok (.iadd, 1) := by decide +kernel
theorem dX10_cut_111 : decode cX10_cut 111 = .ok (.istore 5, 2) := by decide +kernel
theorem dX10_cut_113 : decode cX10_cut 113 = .ok (.aload_n 0, 1) := by decide +kernel
theorem dX10_cut_114 : decode cX10_cut 114 = .ok (.getfield 125, 3) := by decide +kernel
theorem dX10_cut_117 : decode cX10_cut 117 = .ok (.iload 8, 2) := by decide +kernel
theorem dX10_cut_119 : decode cX10_cut 119 = .ok (.iaload, 1) := by decide +kernel
theorem dX10_cut_120 : decode cX10_cut 120 = .ok (.iconst 4, 1) := by decide +kernel
theorem dX10_cut_121 : decode cX10_cut 121 = .ok (.if_icmp .le 15, 3) := by decide +kernel
theorem dX10_cut_124 : decode cX10_cut 124 = .ok (.iload 7, 2) := by decide +kernel
theorem dX10_cut_126 : decode cX10_cut 126 = .ok (.aload_n 0, 1) := by decide +kernel
theorem dX10_cut_127 : decode cX10_cut 127 = .ok (.getfield 128, 3) := by decide +kernel
theorem dX10_cut_130 : decode cX10_cut 130 = .ok (.iload 8, 2) := by decide +kernel
theorem dX10_cut_132 : decode cX10_cut 132 = .ok (.iaload, 1) := by decide +kernel
theorem dX10_cut_133 : decode cX10_cut 133 = .ok (.iadd, 1) := by decide +kernel
theorem dX10_cut_134 : decode cX10_cut 134 = .ok (.istore 7, 2) := by decide +kernel
theorem dX10_cut_136 : decode cX10_cut 136 = .ok (.aload_n 0, 1) := by decide +kernel
theorem dX10_cut_137 : decode cX10_cut 137 = .ok (.getfield 128, 3) := by decide +kernel
theorem dX10_cut_140 : decode cX10_cut 140 = .ok (.iload 8, 2) := by decide +kernel
theorem dX10_cut_142 : decode cX10_cut 142 = .ok (.iaload, 1) := by decide +kernel
theorem dX10_cut_143 : decode cX10_cut 143 = .ok (.iload 6, 2) := by decide +kernel
theorem dX10_cut_145 : decode cX10_cut 145 = .ok (.if_icmp .le 12, 3) := by decide +kernel
theorem dX10_cut_148 : decode cX10_cut 148 = .ok (.aload_n 0, 1) := by decide +kernel
theorem dX10_cut_149 : decode cX10_cut 149 = .ok (.getfield 128, 3) := by decide +kernel
theorem dX10_cut_152 : decode cX10_cut 152 = .ok (.iload 8, 2) := by decide +kernel
theorem dX10_cut_154 : decode cX10_cut 154 = .ok (.iaload, 1) := by decide +kernel
theorem dX10_cut_155 : decode cX10_cut 155 = .ok (.istore 6, 2) := by decide +kernel
theorem dX10_cut_157 : decode cX10_cut 157 = .ok (.iinc 8 1, 3) := by decide +kernel
theorem dX10_cut_160 : decode cX10_cut 160 = .ok (.goto (-76), 3) := by decide +kernel
theorem dX10_cut_163 : decode cX10_cut 163 = .ok (.iload 7, 2) := by decide +kernel
theorem dX10_cut_165 : decode cX10_cut 165 = .ok (.iload 6, 2) := by decide +kernel
theorem dX10_cut_167 : decode cX10_cut 167 = .ok (.if_icmp .le 7, 3) := by decide +kernel
theorem dX10_cut_170 : decode cX10_cut 170 = .ok (.iload 7, 2) := by decide +kernel
theorem dX10_cut_172 : decode cX10_cut 172 = .ok (.istore 6, 2) := by decide +kernel
theorem dX10_cut_174 : decode cX10_cut 174 = .ok (.iload 5, 2) := by decide +kernel
theorem dX10_cut_176 : decode cX10_cut 176 = .ok (.bipush 7, 2) := by decide +kernel
theorem dX10_cut_178 : decode cX10_cut 178 = .ok (.iadd, 1) := by decide +kernel
theorem dX10_cut_179 : decode cX10_cut 179 = .ok (.bipush 8, 2) := by decide +kernel
theorem dX10_cut_181 : decode cX10_cut 181 = .ok (.idiv, 1) := by decide +kernel
theorem dX10_cut_182 : decode cX10_cut 182 = .ok (.iload 6, 2) := by decide +kernel
theorem dX10_cut_184 : decode cX10_cut 184 = .ok (.if_icmp .le 13, 3) := by decide +kernel
theorem dX10_cut_187 : decode cX10_cut 187 = .ok (.iload 5, 2) := by decide +kernel
theorem dX10_cut_189 : decode cX10_cut 189 = .ok (.bipush 7, 2) := by decide +kernel
theorem dX10_cut_191 : decode cX10_cut 191 = .ok (.iadd, 1) := by decide +kernel
theorem dX10_cut_192 : decode cX10_cut 192 = .ok (.bipush 8, 2) := by decide +kernel
theorem dX10_cut_194 : decode cX10_cut 194 = .ok (.idiv, 1) := by decide +kernel
theorem dX10_cut_195 : decode cX10_cut 195 = .ok (.istore 6, 2) := by decide +kernel
theorem dX10_cut_197 : decode cX10_cut 197 = .ok (.aload_n 0, 1) := by decide +kernel
theorem dX10_cut_198 : decode cX10_cut 198 = .ok (.iload 6, 2) := by decide +kernel
theorem dX10_cut_200 : decode cX10_cut 200 = .ok (.invokevirtual 439, 3) := by decide +kernel
theorem dX10_cut_203 : decode cX10_cut 203 = .ok (.ifCond .ne 9, 3) := by decide +kernel
theorem dX10_cut_206 : decode cX10_cut 206 = .ok (.iinc 6 1, 3) := by decide +kernel
theorem dX10_cut_209 : decode cX10_cut 209 = .ok (.goto (-12), 3) := by decide +kernel
theorem dX10_cut_212 : decode cX10_cut 212 = .ok (.iload 6, 2) := by decide +kernel
theorem dX10_cut_214 : decode cX10_cut 214 = .ok (.ireturn, 1) := by decide +kernel
theorem dX10_isLong_0 : decode cX10_isLong 0 = .ok (.iload_n 0, 1) := by decide +kernel
theorem dX10_isLong_1 : decode cX10_isLong 1 = .ok (.iconst 0, 1) := by decide +kernel
theorem dX10_isLong_2 : decode cX10_isLong 2 = .ok (.bipush 60, 2) := by decide +kernel
theorem dX10_isLong_4 : decode cX10_isLong 4 = .ok (.invokestatic 323, 3) := by decide +kernel
theorem dX10_isLong_7 : decode cX10_isLong 7 = .ok (.ireturn, 1) := by decide +kernel
theorem dX10_then_0 : decode cX10_then 0 = .ok (.aload_n 0, 1) := by decide +kernel
theorem dX10_then_1 : decode cX10_then 1 = .ok (.iload_n 1, 1) := by decide +kernel
theorem dX10_then_2 : decode cX10_then 2 = .ok (.iload_n 2, 1) := by decide +kernel
theorem dX10_then_3 : decode cX10_then 3 = .ok (.invokevirtual 343, 3) := by decide +kernel
theorem dX10_then_6 : decode cX10_then 6 = .ok (.ifCond .eq 10, 3) := by decide +kernel
theorem dX10_then_9 : decode cX10_then 9 = .ok (.iload_n 3, 1) := by decide +kernel
theorem dX10_then_10 : decode cX10_then 10 = .ok (.invokestatic 442, 3) := by decide +kernel
theorem dX10_then_13 : decode cX10_then 13 = .ok (.ifCond .ne 5, 3) := by decide +kernel
theorem dX10_then_16 : decode cX10_then 16 = .ok (.iconst (-1), 1) := by decide +kernel
theorem dX10_then_17 : decode cX10_then 17 = .ok (.ireturn, 1) := by decide +kernel
theorem dX10_then_18 : decode cX10_then 18 = .ok (.aload_n 0, 1) := by decide +kernel
theorem dX10_then_19 : decode cX10_then 19 = .ok (.invokevirtual 381, 3) := by decide +kernel
theorem dX10_then_22 : decode cX10_then 22 = .ok (.aload_n 0, 1) := by decide +kernel
theorem dX10_then_23 : decode cX10_then 23 = .ok (.iload_n 3, 1) := by decide +kernel
theorem dX10_then_24 : decode cX10_then 24 = .ok (.invokevirtual 402, 3) := by decide +kernel
theorem dX10_then_27 : decode cX10_then 27 = .ok (.aload_n 0, 1) := by decide +kernel
theorem dX10_then_28 : decode cX10_then 28 = .ok (.getfield 119, 3) := by decide +kernel
theorem dX10_then_31 : decode cX10_then 31 = .ok (.bipush 8, 2) := by decide +kernel
theorem dX10_then_33 : decode cX10_then 33 = .ok (.iload_n 2, 1) := by decide +kernel
theorem dX10_then_34 : decode cX10_then 34 = .ok (.imul, 1) := by decide +kernel
theorem dX10_then_35 : decode cX10_then 35 = .ok (.iload_n 1, 1) := by decide +kernel
theorem dX10_then_36 : decode cX10_then 36 = .ok (.iadd, 1) := by decide +kernel
theorem dX10_then_37 : decode cX10_then 37 = .ok (.iaload, 1) := by decide +kernel
theorem dX10_then_38 : decode cX10_then 38 = .ok (.ireturn, 1) := by decide +kernel
theorem dX10_moreIn_0 : decode cX10_moreIn 0 = .ok (.iconst 0, 1) := by decide +kernel
theorem dX10_moreIn_1 : decode cX10_moreIn 1 = .ok (.istore_n 2, 1) := by decide +kernel
theorem dX10_moreIn_2 : decode cX10_moreIn 2 = .ok (.iload_n 1, 1) := by decide +kernel
theorem dX10_moreIn_3 : decode cX10_moreIn 3 = .ok (.istore_n 3, 1) := by decide +kernel
theorem dX10_moreIn_4 : decode cX10_moreIn 4 = .ok (.iload_n 3, 1) := by decide +kernel
theorem dX10_moreIn_5 : decode cX10_moreIn 5 = .ok (.iload_n 1, 1) := by decide +kernel
theorem dX10_moreIn_6 : decode cX10_moreIn 6 = .ok (.bipush 6, 2) := by decide +kernel
theorem dX10_moreIn_8 : decode cX10_moreIn 8 = .ok (.iadd, 1) := by decide +kernel
theorem dX10_moreIn_9 : decode cX10_moreIn 9 = .ok (.if_icmp .ge 25, 3) := by decide +kernel
theorem dX10_moreIn_12 : decode cX10_moreIn 12 = .ok (.iload_n 2, 1) := by decide +kernel
theorem dX10_moreIn_13 : decode cX10_moreIn 13 = .ok (.aload_n 0, 1) := by decide +kernel
theorem dX10_moreIn_14 : decode cX10_moreIn 14 = .ok (.getfield 119, 3) := by decide +kernel
theorem dX10_moreIn_17 : decode cX10_moreIn 17 = .ok (.iload_n 3, 1) := by decide +kernel
theorem dX10_moreIn_18 : decode cX10_moreIn 18 = .ok (.iaload, 1) := by decide +kernel
theorem dX10_moreIn_19 : decode cX10_moreIn 19 = .ok (.aload_n 0, 1) := by decide +kernel
theorem dX10_moreIn_20 : decode cX10_moreIn 20 = .ok (.getfield 116, 3) := by decide +kernel
theorem dX10_moreIn_23 : decode cX10_moreIn 23 = .ok (.iload_n 3, 1) := by decide +kernel
theorem dX10_moreIn_24 : decode cX10_moreIn 24 = .ok (.iaload, 1) := by decide +kernel
theorem dX10_moreIn_25 : decode cX10_moreIn 25 = .ok (.isub, 1) := by decide +kernel
theorem dX10_moreIn_26 : decode cX10_moreIn 26 = .ok (.iadd, 1) := by decide +kernel
theorem dX10_moreIn_27 : decode cX10_moreIn 27 = .ok (.istore_n 2, 1) := by decide +kernel
theorem dX10_moreIn_28 : decode cX10_moreIn 28 = .ok (.iinc 3 1, 3) := by decide +kernel
theorem dX10_moreIn_31 : decode cX10_moreIn 31 = .ok (.goto (-27), 3) := by decide +kernel
theorem dX10_moreIn_34 : decode cX10_moreIn 34 = .ok (.iload_n 2, 1) := by decide +kernel
theorem dX10_moreIn_35 : decode cX10_moreIn 35 = .ok (.ireturn, 1) := by decide +kernel
theorem dX10_all_0 : decode cX10_all 0 = .ok (.iload_n 1, 1) := by decide +kernel
theorem dX10_all_1 : decode cX10_all 1 = .ok (.invokestatic 442, 3) := by decide +kernel
theorem dX10_all_4 : decode cX10_all 4 = .ok (.ifCond .eq 12, 3) := by decide +kernel
theorem dX10_all_7 : decode cX10_all 7 = .ok (.iload_n 2, 1) := by decide +kernel
theorem dX10_all_8 : decode cX10_all 8 = .ok (.iconst 0, 1) := by decide +kernel
theorem dX10_all_9 : decode cX10_all 9 = .ok (.iconst 2, 1) := by decide +kernel
theorem dX10_all_10 : decode cX10_all 10 = .ok (.invokestatic 323, 3) := by decide +kernel
theorem dX10_all_13 : decode cX10_all 13 = .ok (.ifCond .ne 5, 3) := by decide +kernel
theorem dX10_all_16 : decode cX10_all 16 = .ok (.iconst (-1), 1) := by decide +kernel
theorem dX10_all_17 : decode cX10_all 17 = .ok (.ireturn, 1) := by decide +kernel
theorem dX10_all_18 : decode cX10_all 18 = .ok (.aload_n 0, 1) := by decide +kernel
theorem dX10_all_19 : decode cX10_all 19 = .ok (.invokevirtual 381, 3) := by decide +kernel
theorem dX10_all_22 : decode cX10_all 22 = .ok (.aload_n 0, 1) := by decide +kernel
theorem dX10_all_23 : decode cX10_all 23 = .ok (.iload_n 1, 1) := by decide +kernel
theorem dX10_all_24 : decode cX10_all 24 = .ok (.invokevirtual 402, 3) := by decide +kernel
theorem dX10_all_27 : decode cX10_all 27 = .ok (.iload_n 2, 1) := by decide +kernel
theorem dX10_all_28 : decode cX10_all 28 = .ok (.iconst 2, 1) := by decide +kernel
theorem dX10_all_29 : decode cX10_all 29 = .ok (.if_icmp .ne 13, 3) := by decide +kernel
theorem dX10_all_32 : decode cX10_all 32 = .ok (.aload_n 0, 1) := by decide +kernel
theorem dX10_all_33 : decode cX10_all 33 = .ok (.getfield 119, 3) := by decide +kernel
theorem dX10_all_36 : decode cX10_all 36 = .ok (.bipush 88, 2) := by decide +kernel
theorem dX10_all_38 : decode cX10_all 38 = .ok (.iaload, 1) := by decide +kernel
theorem dX10_all_39 : decode cX10_all 39 = .ok (.goto 14, 3) := by decide +kernel
theorem dX10_all_42 : decode cX10_all 42 = .ok (.aload_n 0, 1) := by decide +kernel
theorem dX10_all_43 : decode cX10_all 43 = .ok (.bipush 76, 2) := by decide +kernel
theorem dX10_all_45 : decode cX10_all 45 = .ok (.bipush 6, 2) := by decide +kernel
theorem dX10_all_47 : decode cX10_all 47 = .ok (.iload_n 2, 1) := by decide +kernel
theorem dX10_all_48 : decode cX10_all 48 = .ok (.imul, 1) := by decide +kernel
theorem dX10_all_49 : decode cX10_all 49 = .ok (.iadd, 1) := by decide +kernel
theorem dX10_all_50 : decode cX10_all 50 = .ok (.invokevirtual 445, 3) := by decide +kernel
theorem dX10_all_53 : decode cX10_all 53 = .ok (.ireturn, 1) := by decide +kernel
theorem dX10_wettest_0 : decode cX10_wettest 0 = .ok (.iload_n 1, 1) := by decide +kernel
theorem dX10_wettest_1 : decode cX10_wettest 1 = .ok (.invokestatic 442, 3) := by decide +kernel
theorem dX10_wettest_4 : decode cX10_wettest 4 = .ok (.ifCond .eq 12, 3) := by decide +kernel
theorem dX10_wettest_7 : decode cX10_wettest 7 = .ok (.iload_n 2, 1) := by decide +kernel
theorem dX10_wettest_8 : decode cX10_wettest 8 = .ok (.iconst 0, 1) := by decide +kernel
theorem dX10_wettest_9 : decode cX10_wettest 9 = .ok (.iconst 2, 1) := by decide +kernel
theorem dX10_wettest_10 : decode cX10_wettest 10 = .ok (.invokestatic 323, 3) := by decide +kernel
theorem dX10_wettest_13 : decode cX10_wettest 13 = .ok (.ifCond .ne 5, 3) := by decide +kernel
theorem dX10_wettest_16 : decode cX10_wettest 16 = .ok (.iconst (-1), 1) := by decide +kernel
theorem dX10_wettest_17 : decode cX10_wettest 17 = .ok (.ireturn, 1) := by decide +kernel
theorem dX10_wettest_18 : decode cX10_wettest 18 = .ok (.aload_n 0, 1) := by decide +kernel
theorem dX10_wettest_19 : decode cX10_wettest 19 = .ok (.invokevirtual 381, 3) := by decide +kernel
theorem dX10_wettest_22 : decode cX10_wettest 22 = .ok (.aload_n 0, 1) := by decide +kernel
theorem dX10_wettest_23 : decode cX10_wettest 23 = .ok (.iload_n 1, 1) := by decide +kernel
theorem dX10_wettest_24 : decode cX10_wettest 24 = .ok (.invokevirtual 402, 3) := by decide +kernel
theorem dX10_wettest_27 : decode cX10_wettest 27 = .ok (.iconst (-1), 1) := by decide +kernel
theorem dX10_wettest_28 : decode cX10_wettest 28 = .ok (.istore_n 3, 1) := by decide +kernel
theorem dX10_wettest_29 : decode cX10_wettest 29 = .ok (.iconst 0, 1) := by decide +kernel
theorem dX10_wettest_30 : decode cX10_wettest 30 = .ok (.istore 4, 2) := by decide +kernel
theorem dX10_wettest_32 : decode cX10_wettest 32 = .ok (.iload 4, 2) := by decide +kernel
theorem dX10_wettest_34 : decode cX10_wettest 34 = .ok (.bipush 48, 2) := by decide +kernel
theorem dX10_wettest_36 : decode cX10_wettest 36 = .ok (.if_icmp .ge 41, 3) := by decide +kernel
theorem dX10_wettest_39 : decode cX10_wettest 39 = .ok (.aload_n 0, 1) := by decide +kernel
theorem dX10_wettest_40 : decode cX10_wettest 40 = .ok (.iload 4, 2) := by decide +kernel
theorem dX10_wettest_42 : decode cX10_wettest 42 = .ok (.invokevirtual 366, 3) := by decide +kernel
theorem dX10_wettest_45 : decode cX10_wettest 45 = .ok (.ifCond .eq 26, 3) := by decide +kernel
theorem dX10_wettest_48 : decode cX10_wettest 48 = .ok (.iload_n 3, 1) := by decide +kernel
theorem dX10_wettest_49 : decode cX10_wettest 49 = .ok (.ifCond .lt 19, 3) := by decide +kernel
theorem dX10_wettest_52 : decode cX10_wettest 52 = .ok (.aload_n 0, 1) := by decide +kernel
theorem dX10_wettest_53 : decode cX10_wettest 53 = .ok (.getfield 119, 3) := by decide +kernel
theorem dX10_wettest_56 : decode cX10_wettest 56 = .ok (.iload 4, 2) := by decide +kernel
theorem dX10_wettest_58 : decode cX10_wettest 58 = .ok (.iaload, 1) := by decide +kernel
theorem dX10_wettest_59 : decode cX10_wettest 59 = .ok (.aload_n 0, 1) := by decide +kernel
theorem dX10_wettest_60 : decode cX10_wettest 60 = .ok (.getfield 119, 3) := by decide +kernel
theorem dX10_wettest_63 : decode cX10_wettest 63 = .ok (.iload_n 3, 1) := by decide +kernel
theorem dX10_wettest_64 : decode cX10_wettest 64 = .ok (.iaload, 1) := by decide +kernel
theorem dX10_wettest_65 : decode cX10_wettest 65 = .ok (.if_icmp .le 6, 3) := by decide +kernel
theorem dX10_wettest_68 : decode cX10_wettest 68 = .ok (.iload 4, 2) := by decide +kernel
theorem dX10_wettest_70 : decode cX10_wettest 70 = .ok (.istore_n 3, 1) := by decide +kernel
theorem dX10_wettest_71 : decode cX10_wettest 71 = .ok (.iinc 4 1, 3) := by decide +kernel
theorem dX10_wettest_74 : decode cX10_wettest 74 = .ok (.goto (-42), 3) := by decide +kernel
theorem dX10_wettest_77 : decode cX10_wettest 77 = .ok (.iload_n 3, 1) := by decide +kernel
theorem dX10_wettest_78 : decode cX10_wettest 78 = .ok (.ifCond .ge 6, 3) := by decide +kernel
theorem dX10_wettest_81 : decode cX10_wettest 81 = .ok (.bipush (-2), 2) := by decide +kernel
theorem dX10_wettest_83 : decode cX10_wettest 83 = .ok (.ireturn, 1) := by decide +kernel
theorem dX10_wettest_84 : decode cX10_wettest 84 = .ok (.iload_n 2, 1) := by decide +kernel
theorem dX10_wettest_85 : decode cX10_wettest 85 = .ok (.ifCond .ne 12, 3) := by decide +kernel
theorem dX10_wettest_88 : decode cX10_wettest 88 = .ok (.aload_n 0, 1) := by decide +kernel
theorem dX10_wettest_89 : decode cX10_wettest 89 = .ok (.getfield 119, 3) := by decide +kernel
theorem dX10_wettest_92 : decode cX10_wettest 92 = .ok (.iload_n 3, 1) := by decide +kernel
theorem dX10_wettest_93 : decode cX10_wettest 93 = .ok (.iaload, 1) := by decide +kernel
theorem dX10_wettest_94 : decode cX10_wettest 94 = .ok (.goto 19, 3) := by decide +kernel
theorem dX10_wettest_97 : decode cX10_wettest 97 = .ok (.iload_n 2, 1) := by decide +kernel
theorem dX10_wettest_98 : decode cX10_wettest 98 = .ok (.iconst 1, 1) := by decide +kernel
theorem dX10_wettest_99 : decode cX10_wettest 99 = .ok (.if_icmp .ne 10, 3) := by decide +kernel
theorem dX10_wettest_102 : decode cX10_wettest 102 = .ok (.iload_n 3, 1) := by decide +kernel
theorem dX10_wettest_103 : decode cX10_wettest 103 = .ok (.bipush 8, 2) := by decide +kernel
theorem dX10_wettest_105 : decode cX10_wettest 105 = .ok (.irem, 1) := by decide +kernel
theorem dX10_wettest_106 : decode cX10_wettest 106 = .ok (.goto 7, 3) := by decide +kernel
theorem dX10_wettest_109 : decode cX10_wettest 109 = .ok (.iload_n 3, 1) := by decide +kernel
theorem dX10_wettest_110 : decode cX10_wettest 110 = .ok (.bipush 8, 2) := by decide +kernel
theorem dX10_wettest_112 : decode cX10_wettest 112 = .ok (.idiv, 1) := by decide +kernel
theorem dX10_wettest_113 : decode cX10_wettest 113 = .ok (.ireturn, 1) := by decide +kernel
theorem dX10_dry_0 : decode cX10_dry 0 = .ok (.iload_n 1, 1) := by decide +kernel
theorem dX10_dry_1 : decode cX10_dry 1 = .ok (.invokestatic 442, 3) := by decide +kernel
theorem dX10_dry_4 : decode cX10_dry 4 = .ok (.ifCond .ne 5, 3) := by decide +kernel
theorem dX10_dry_7 : decode cX10_dry 7 = .ok (.iconst (-1), 1) := by decide +kernel
theorem dX10_dry_8 : decode cX10_dry 8 = .ok (.ireturn, 1) := by decide +kernel
theorem dX10_dry_9 : decode cX10_dry 9 = .ok (.aload_n 0, 1) := by decide +kernel
theorem dX10_dry_10 : decode cX10_dry 10 = .ok (.invokevirtual 381, 3) := by decide +kernel
theorem dX10_dry_13 : decode cX10_dry 13 = .ok (.aload_n 0, 1) := by decide +kernel
theorem dX10_dry_14 : decode cX10_dry 14 = .ok (.iload_n 1, 1) := by decide +kernel
theorem dX10_dry_15 : decode cX10_dry 15 = .ok (.invokevirtual 402, 3) := by decide +kernel
theorem dX10_dry_18 : decode cX10_dry 18 = .ok (.iconst 0, 1) := by decide +kernel
theorem dX10_dry_19 : decode cX10_dry 19 = .ok (.istore_n 2, 1) := by decide +kernel
theorem dX10_dry_20 : decode cX10_dry 20 = .ok (.iconst 0, 1) := by decide +kernel
theorem dX10_dry_21 : decode cX10_dry 21 = .ok (.istore_n 3, 1) := by decide +kernel
theorem dX10_dry_22 : decode cX10_dry 22 = .ok (.iload_n 3, 1) := by decide +kernel
theorem dX10_dry_23 : decode cX10_dry 23 = .ok (.bipush 48, 2) := by decide +kernel
theorem dX10_dry_25 : decode cX10_dry 25 = .ok (.if_icmp .ge 29, 3) := by decide +kernel
theorem dX10_dry_28 : decode cX10_dry 28 = .ok (.aload_n 0, 1) := by decide +kernel
theorem dX10_dry_29 : decode cX10_dry 29 = .ok (.iload_n 3, 1) := by decide +kernel
theorem dX10_dry_30 : decode cX10_dry 30 = .ok (.invokevirtual 366, 3) := by decide +kernel
theorem dX10_dry_33 : decode cX10_dry 33 = .ok (.ifCond .eq 15, 3) := by decide +kernel
theorem dX10_dry_36 : decode cX10_dry 36 = .ok (.aload_n 0, 1) := by decide +kernel
theorem dX10_dry_37 : decode cX10_dry 37 = .ok (.getfield 119, 3) := by decide +kernel
theorem dX10_dry_40 : decode cX10_dry 40 = .ok (.iload_n 3, 1) := by decide +kernel
theorem dX10_dry_41 : decode cX10_dry 41 = .ok (.iaload, 1) := by decide +kernel
theorem dX10_dry_42 : decode cX10_dry 42 = .ok (.ifCond .ne 6, 3) := by decide +kernel
theorem dX10_dry_45 : decode cX10_dry 45 = .ok (.iinc 2 1, 3) := by decide +kernel
theorem dX10_dry_48 : decode cX10_dry 48 = .ok (.iinc 3 1, 3) := by decide +kernel
theorem dX10_dry_51 : decode cX10_dry 51 = .ok (.goto (-29), 3) := by decide +kernel
theorem dX10_dry_54 : decode cX10_dry 54 = .ok (.iload_n 2, 1) := by decide +kernel
theorem dX10_dry_55 : decode cX10_dry 55 = .ok (.ireturn, 1) := by decide +kernel
theorem dX10_emptyBy_0 : decode cX10_emptyBy 0 = .ok (.aload_n 0, 1) := by decide +kernel
theorem dX10_emptyBy_1 : decode cX10_emptyBy 1 = .ok (.invokevirtual 381, 3) := by decide +kernel
theorem dX10_emptyBy_4 : decode cX10_emptyBy 4 = .ok (.iconst 0, 1) := by decide +kernel
theorem dX10_emptyBy_5 : decode cX10_emptyBy 5 = .ok (.istore_n 1, 1) := by decide +kernel
theorem dX10_emptyBy_6 : decode cX10_emptyBy 6 = .ok (.iload_n 1, 1) := by decide +kernel
theorem dX10_emptyBy_7 : decode cX10_emptyBy 7 = .ok (.sipush 200, 3) := by decide +kernel
theorem dX10_emptyBy_10 : decode cX10_emptyBy 10 = .ok (.if_icmp .gt 25, 3) := by decide +kernel
theorem dX10_emptyBy_13 : decode cX10_emptyBy 13 = .ok (.aload_n 0, 1) := by decide +kernel
theorem dX10_emptyBy_14 : decode cX10_emptyBy 14 = .ok (.getfield 119, 3) := by decide +kernel
theorem dX10_emptyBy_17 : decode cX10_emptyBy 17 = .ok (.bipush 88, 2) := by decide +kernel
theorem dX10_emptyBy_19 : decode cX10_emptyBy 19 = .ok (.iaload, 1) := by decide +kernel
theorem dX10_emptyBy_20 : decode cX10_emptyBy 20 = .ok (.ifCond .ne 5, 3) := by decide +kernel
theorem dX10_emptyBy_23 : decode cX10_emptyBy 23 = .ok (.iload_n 1, 1) := by decide +kernel
theorem dX10_emptyBy_24 : decode cX10_emptyBy 24 = .ok (.ireturn, 1) := by decide +kernel
theorem dX10_emptyBy_25 : decode cX10_emptyBy 25 = .ok (.aload_n 0, 1) := by decide +kernel
theorem dX10_emptyBy_26 : decode cX10_emptyBy 26 = .ok (.invokevirtual 378, 3) := by decide +kernel
theorem dX10_emptyBy_29 : decode cX10_emptyBy 29 = .ok (.iinc 1 1, 3) := by decide +kernel
theorem dX10_emptyBy_32 : decode cX10_emptyBy 32 = .ok (.goto (-26), 3) := by decide +kernel
theorem dX10_emptyBy_35 : decode cX10_emptyBy 35 = .ok (.bipush (-2), 2) := by decide +kernel
theorem dX10_emptyBy_37 : decode cX10_emptyBy 37 = .ok (.ireturn, 1) := by decide +kernel
theorem dX10_sixes_0 : decode cX10_sixes 0 = .ok (.iconst 1, 1) := by decide +kernel
theorem dX10_sixes_1 : decode cX10_sixes 1 = .ok (.istore_n 1, 1) := by decide +kernel
theorem dX10_sixes_2 : decode cX10_sixes 2 = .ok (.iconst 0, 1) := by decide +kernel
theorem dX10_sixes_3 : decode cX10_sixes 3 = .ok (.istore_n 2, 1) := by decide +kernel
theorem dX10_sixes_4 : decode cX10_sixes 4 = .ok (.iload_n 2, 1) := by decide +kernel
theorem dX10_sixes_5 : decode cX10_sixes 5 = .ok (.iload_n 0, 1) := by decide +kernel
theorem dX10_sixes_6 : decode cX10_sixes 6 = .ok (.if_icmp .ge 14, 3) := by decide +kernel
theorem dX10_sixes_9 : decode cX10_sixes 9 = .ok (.iload_n 1, 1) := by decide +kernel
theorem dX10_sixes_10 : decode cX10_sixes 10 = .ok (.bipush 6, 2) := by decide +kernel
theorem dX10_sixes_12 : decode cX10_sixes 12 = .ok (.imul, 1) := by decide +kernel
theorem dX10_sixes_13 : decode cX10_sixes 13 = .ok (.istore_n 1, 1) := by decide +kernel
theorem dX10_sixes_14 : decode cX10_sixes 14 = .ok (.iinc 2 1, 3) := by decide +kernel
theorem dX10_sixes_17 : decode cX10_sixes 17 = .ok (.goto (-13), 3) := by decide +kernel
theorem dX10_sixes_20 : decode cX10_sixes 20 = .ok (.iload_n 1, 1) := by decide +kernel
theorem dX10_sixes_21 : decode cX10_sixes 21 = .ok (.ireturn, 1) := by decide +kernel
theorem dX10_offBy_0 : decode cX10_offBy 0 = .ok (.aload_n 0, 1) := by decide +kernel
theorem dX10_offBy_1 : decode cX10_offBy 1 = .ok (.iload_n 1, 1) := by decide +kernel
theorem dX10_offBy_2 : decode cX10_offBy 2 = .ok (.iload_n 3, 1) := by decide +kernel
theorem dX10_offBy_3 : decode cX10_offBy 3 = .ok (.iload 4, 2) := by decide +kernel
theorem dX10_offBy_5 : decode cX10_offBy 5 = .ok (.invokevirtual 405, 3) := by decide +kernel
theorem dX10_offBy_8 : decode cX10_offBy 8 = .ok (.aload_n 0, 1) := by decide +kernel
theorem dX10_offBy_9 : decode cX10_offBy 9 = .ok (.iload_n 2, 1) := by decide +kernel
theorem dX10_offBy_10 : decode cX10_offBy 10 = .ok (.invokevirtual 390, 3) := by decide +kernel
theorem dX10_offBy_13 : decode cX10_offBy 13 = .ok (.isub, 1) := by decide +kernel
theorem dX10_offBy_14 : decode cX10_offBy 14 = .ok (.istore 5, 2) := by decide +kernel
theorem dX10_offBy_16 : decode cX10_offBy 16 = .ok (.iload 5, 2) := by decide +kernel
theorem dX10_offBy_18 : decode cX10_offBy 18 = .ok (.ifCond .ge 9, 3) := by decide +kernel
theorem dX10_offBy_21 : decode cX10_offBy 21 = .ok (.iload 5, 2) := by decide +kernel
theorem dX10_offBy_23 : decode cX10_offBy 23 = .ok (.ineg, 1) := by decide +kernel
theorem dX10_offBy_24 : decode cX10_offBy 24 = .ok (.goto 5, 3) := by decide +kernel
theorem dX10_offBy_27 : decode cX10_offBy 27 = .ok (.iload 5, 2) := by decide +kernel
theorem dX10_offBy_29 : decode cX10_offBy 29 = .ok (.ireturn, 1) := by decide +kernel
theorem dX10_offAll_0 : decode cX10_offAll 0 = .ok (.iconst 0, 1) := by decide +kernel
theorem dX10_offAll_1 : decode cX10_offAll 1 = .ok (.istore_n 2, 1) := by decide +kernel
theorem dX10_offAll_2 : decode cX10_offAll 2 = .ok (.iconst 0, 1) := by decide +kernel
theorem dX10_offAll_3 : decode cX10_offAll 3 = .ok (.istore_n 3, 1) := by decide +kernel
theorem dX10_offAll_4 : decode cX10_offAll 4 = .ok (.aload_n 0, 1) := by decide +kernel
theorem dX10_offAll_5 : decode cX10_offAll 5 = .ok (.getfield 61, 3) := by decide +kernel
theorem dX10_offAll_8 : decode cX10_offAll 8 = .ok (.aload_n 0, 1) := by decide +kernel
theorem dX10_offAll_9 : decode cX10_offAll 9 = .ok (.getfield 239, 3) := by decide +kernel
theorem dX10_offAll_12 : decode cX10_offAll 12 = .ok (.iaload, 1) := by decide +kernel
theorem dX10_offAll_13 : decode cX10_offAll 13 = .ok (.invokestatic 448, 3) := by decide +kernel
theorem dX10_offAll_16 : decode cX10_offAll 16 = .ok (.istore 4, 2) := by decide +kernel
theorem dX10_offAll_18 : decode cX10_offAll 18 = .ok (.iconst 0, 1) := by decide +kernel
theorem dX10_offAll_19 : decode cX10_offAll 19 = .ok (.istore 5, 2) := by decide +kernel
theorem dX10_offAll_21 : decode cX10_offAll 21 = .ok (.iload 5, 2) := by decide +kernel
theorem dX10_offAll_23 : decode cX10_offAll 23 = .ok (.aload_n 0, 1) := by decide +kernel
theorem dX10_offAll_24 : decode cX10_offAll 24 = .ok (.getfield 61, 3) := by decide +kernel
theorem dX10_offAll_27 : decode cX10_offAll 27 = .ok (.aload_n 0, 1) := by decide +kernel
theorem dX10_offAll_28 : decode cX10_offAll 28 = .ok (.getfield 239, 3) := by decide +kernel
theorem dX10_offAll_31 : decode cX10_offAll 31 = .ok (.iaload, 1) := by decide +kernel
theorem dX10_offAll_32 : decode cX10_offAll 32 = .ok (.if_icmp .ge 69, 3) := by decide +kernel
theorem dX10_offAll_35 : decode cX10_offAll 35 = .ok (.iload 4, 2) := by decide +kernel
theorem dX10_offAll_37 : decode cX10_offAll 37 = .ok (.bipush 6, 2) := by decide +kernel
theorem dX10_offAll_39 : decode cX10_offAll 39 = .ok (.idiv, 1) := by decide +kernel
theorem dX10_offAll_40 : decode cX10_offAll 40 = .ok (.istore 4, 2) := by decide +kernel
theorem dX10_offAll_42 : decode cX10_offAll 42 = .ok (.iload_n 1, 1) := by decide +kernel
theorem dX10_offAll_43 : decode cX10_offAll 43 = .ok (.iload 4, 2) := by decide +kernel
theorem dX10_offAll_45 : decode cX10_offAll 45 = .ok (.idiv, 1) := by decide +kernel
theorem dX10_offAll_46 : decode cX10_offAll 46 = .ok (.bipush 6, 2) := by decide +kernel
theorem dX10_offAll_48 : decode cX10_offAll 48 = .ok (.irem, 1) := by decide +kernel
theorem dX10_offAll_49 : decode cX10_offAll 49 = .ok (.istore 6, 2) := by decide +kernel
theorem dX10_offAll_51 : decode cX10_offAll 51 = .ok (.aload_n 0, 1) := by decide +kernel
theorem dX10_offAll_52 : decode cX10_offAll 52 = .ok (.iload 6, 2) := by decide +kernel
theorem dX10_offAll_54 : decode cX10_offAll 54 = .ok (.invokevirtual 387, 3) := by decide +kernel
theorem dX10_offAll_57 : decode cX10_offAll 57 = .ok (.ifCond .eq 13, 3) := by decide +kernel
theorem dX10_offAll_60 : decode cX10_offAll 60 = .ok (.iload_n 2, 1) := by decide +kernel
theorem dX10_offAll_61 : decode cX10_offAll 61 = .ok (.iload 6, 2) := by decide +kernel
theorem dX10_offAll_63 : decode cX10_offAll 63 = .ok (.ishr, 1) := by decide +kernel
theorem dX10_offAll_64 : decode cX10_offAll 64 = .ok (.iconst 1, 1) := by decide +kernel
theorem dX10_offAll_65 : decode cX10_offAll 65 = .ok (.iand, 1) := by decide +kernel
theorem dX10_offAll_66 : decode cX10_offAll 66 = .ok (.iconst 1, 1) := by decide +kernel
theorem dX10_offAll_67 : decode cX10_offAll 67 = .ok (.if_icmp .ne 5, 3) := by decide +kernel
theorem dX10_offAll_70 : decode cX10_offAll 70 = .ok (.iconst (-1), 1) := by decide +kernel
theorem dX10_offAll_71 : decode cX10_offAll 71 = .ok (.ireturn, 1) := by decide +kernel
theorem dX10_offAll_72 : decode cX10_offAll 72 = .ok (.iload_n 2, 1) := by decide +kernel
theorem dX10_offAll_73 : decode cX10_offAll 73 = .ok (.iconst 1, 1) := by decide +kernel
theorem dX10_offAll_74 : decode cX10_offAll 74 = .ok (.iload 6, 2) := by decide +kernel
theorem dX10_offAll_76 : decode cX10_offAll 76 = .ok (.ishl, 1) := by decide +kernel
theorem dX10_offAll_77 : decode cX10_offAll 77 = .ok (.ior, 1) := by decide +kernel
theorem dX10_offAll_78 : decode cX10_offAll 78 = .ok (.istore_n 2, 1) := by decide +kernel
theorem dX10_offAll_79 : decode cX10_offAll 79 = .ok (.iload_n 3, 1) := by decide +kernel
theorem dX10_offAll_80 : decode cX10_offAll 80 = .ok (.aload_n 0, 1) := by decide +kernel
theorem dX10_offAll_81 : decode cX10_offAll 81 = .ok (.getfield 137, 3) := by decide +kernel
theorem dX10_offAll_84 : decode cX10_offAll 84 = .ok (.bipush 6, 2) := by decide +kernel
theorem dX10_offAll_86 : decode cX10_offAll 86 = .ok (.iload 5, 2) := by decide +kernel
theorem dX10_offAll_88 : decode cX10_offAll 88 = .ok (.imul, 1) := by decide +kernel
theorem dX10_offAll_89 : decode cX10_offAll 89 = .ok (.iload 6, 2) := by decide +kernel
theorem dX10_offAll_91 : decode cX10_offAll 91 = .ok (.iadd, 1) := by decide +kernel
theorem dX10_offAll_92 : decode cX10_offAll 92 = .ok (.iaload, 1) := by decide +kernel
theorem dX10_offAll_93 : decode cX10_offAll 93 = .ok (.iadd, 1) := by decide +kernel
theorem dX10_offAll_94 : decode cX10_offAll 94 = .ok (.istore_n 3, 1) := by decide +kernel
theorem dX10_offAll_95 : decode cX10_offAll 95 = .ok (.iinc 5 1, 3) := by decide +kernel
theorem dX10_offAll_98 : decode cX10_offAll 98 = .ok (.goto (-77), 3) := by decide +kernel
theorem dX10_offAll_101 : decode cX10_offAll 101 = .ok (.iload_n 3, 1) := by decide +kernel
theorem dX10_offAll_102 : decode cX10_offAll 102 = .ok (.ireturn, 1) := by decide +kernel
theorem dX10_fillsServe_0 : decode cX10_fillsServe 0 = .ok (.iconst 0, 1) := by decide +kernel
theorem dX10_fillsServe_1 : decode cX10_fillsServe 1 = .ok (.istore_n 3, 1) := by decide +kernel
theorem dX10_fillsServe_2 : decode cX10_fillsServe 2 = .ok (.iload_n 3, 1) := by decide +kernel
theorem dX10_fillsServe_3 : decode cX10_fillsServe 3 = .ok (.aload_n 0, 1) := by decide +kernel
theorem dX10_fillsServe_4 : decode cX10_fillsServe 4 = .ok (.getfield 61, 3) := by decide +kernel
theorem dX10_fillsServe_7 : decode cX10_fillsServe 7 = .ok (.aload_n 0, 1) := by decide +kernel
theorem dX10_fillsServe_8 : decode cX10_fillsServe 8 = .ok (.getfield 239, 3) := by decide +kernel
theorem dX10_fillsServe_11 : decode cX10_fillsServe 11 = .ok (.iaload, 1) := by decide +kernel
theorem dX10_fillsServe_12 : decode cX10_fillsServe 12 = .ok (.if_icmp .ge 53, 3) := by decide +kernel
theorem dX10_fillsServe_15 : decode cX10_fillsServe 15 = .ok (.iconst 0, 1) := by decide +kernel
theorem dX10_fillsServe_16 : decode cX10_fillsServe 16 = .ok (.istore 4, 2) := by decide +kernel
theorem dX10_fillsServe_18 : decode cX10_fillsServe 18 = .ok (.iload 4, 2) := by decide +kernel
theorem dX10_fillsServe_20 : decode cX10_fillsServe 20 = .ok (.aload_n 0, 1) := by decide +kernel
theorem dX10_fillsServe_21 : decode cX10_fillsServe 21 = .ok (.getfield 52, 3) := by decide +kernel
theorem dX10_fillsServe_24 : decode cX10_fillsServe 24 = .ok (.aload_n 0, 1) := by decide +kernel
theorem dX10_fillsServe_25 : decode cX10_fillsServe 25 = .ok (.getfield 239, 3) := by decide +kernel
theorem dX10_fillsServe_28 : decode cX10_fillsServe 28 = .ok (.iaload, 1) := by decide +kernel
theorem dX10_fillsServe_29 : decode cX10_fillsServe 29 = .ok (.if_icmp .ge 30, 3) := by decide +kernel
theorem dX10_fillsServe_32 : decode cX10_fillsServe 32 = .ok (.aload_n 0, 1) := by decide +kernel
theorem dX10_fillsServe_33 : decode cX10_fillsServe 33 = .ok (.getfield 137, 3) := by decide +kernel
theorem dX10_fillsServe_36 : decode cX10_fillsServe 36 = .ok (.bipush 6, 2) := by decide +kernel
theorem dX10_fillsServe_38 : decode cX10_fillsServe 38 = .ok (.iload_n 3, 1) := by decide +kernel
theorem dX10_fillsServe_39 : decode cX10_fillsServe 39 = .ok (.imul, 1) := by decide +kernel
theorem dX10_fillsServe_40 : decode cX10_fillsServe 40 = .ok (.iload 4, 2) := by decide +kernel
theorem dX10_fillsServe_42 : decode cX10_fillsServe 42 = .ok (.iadd, 1) := by decide +kernel
theorem dX10_fillsServe_43 : decode cX10_fillsServe 43 = .ok (.aload_n 0, 1) := by decide +kernel
theorem dX10_fillsServe_44 : decode cX10_fillsServe 44 = .ok (.iload_n 3, 1) := by decide +kernel
theorem dX10_fillsServe_45 : decode cX10_fillsServe 45 = .ok (.iload 4, 2) := by decide +kernel
theorem dX10_fillsServe_47 : decode cX10_fillsServe 47 = .ok (.iload_n 1, 1) := by decide +kernel
theorem dX10_fillsServe_48 : decode cX10_fillsServe 48 = .ok (.iload_n 2, 1) := by decide +kernel
theorem dX10_fillsServe_49 : decode cX10_fillsServe 49 = .ok (.invokevirtual 451, 3) := by decide +kernel
theorem dX10_fillsServe_52 : decode cX10_fillsServe 52 = .ok (.iastore, 1) := by decide +kernel
theorem dX10_fillsServe_53 : decode cX10_fillsServe 53 = .ok (.iinc 4 1, 3) := by decide +kernel
theorem dX10_fillsServe_56 : decode cX10_fillsServe 56 = .ok (.goto (-38), 3) := by decide +kernel
theorem dX10_fillsServe_59 : decode cX10_fillsServe 59 = .ok (.iinc 3 1, 3) := by decide +kernel
theorem dX10_fillsServe_62 : decode cX10_fillsServe 62 = .ok (.goto (-60), 3) := by decide +kernel
theorem dX10_fillsServe_65 : decode cX10_fillsServe 65 = .ok (.aload_n 0, 1) := by decide +kernel
theorem dX10_fillsServe_66 : decode cX10_fillsServe 66 = .ok (.iconst (-1), 1) := by decide +kernel
theorem dX10_fillsServe_67 : decode cX10_fillsServe 67 = .ok (.putfield 455, 3) := by decide +kernel
theorem dX10_fillsServe_70 : decode cX10_fillsServe 70 = .ok (.iconst 0, 1) := by decide +kernel
theorem dX10_fillsServe_71 : decode cX10_fillsServe 71 = .ok (.istore_n 3, 1) := by decide +kernel
theorem dX10_fillsServe_72 : decode cX10_fillsServe 72 = .ok (.iload_n 3, 1) := by decide +kernel
theorem dX10_fillsServe_73 : decode cX10_fillsServe 73 = .ok (.aload_n 0, 1) := by decide +kernel
theorem dX10_fillsServe_74 : decode cX10_fillsServe 74 = .ok (.getfield 61, 3) := by decide +kernel
theorem dX10_fillsServe_77 : decode cX10_fillsServe 77 = .ok (.aload_n 0, 1) := by decide +kernel
theorem dX10_fillsServe_78 : decode cX10_fillsServe 78 = .ok (.getfield 239, 3) := by decide +kernel
theorem dX10_fillsServe_81 : decode cX10_fillsServe 81 = .ok (.iaload, 1) := by decide +kernel
theorem dX10_fillsServe_82 : decode cX10_fillsServe 82 = .ok (.invokestatic 448, 3) := by decide +kernel
theorem dX10_fillsServe_85 : decode cX10_fillsServe 85 = .ok (.if_icmp .ge 51, 3) := by decide +kernel
theorem dX10_fillsServe_88 : decode cX10_fillsServe 88 = .ok (.aload_n 0, 1) := by decide +kernel
theorem dX10_fillsServe_89 : decode cX10_fillsServe 89 = .ok (.iload_n 3, 1) := by decide +kernel
theorem dX10_fillsServe_90 : decode cX10_fillsServe 90 = .ok (.invokevirtual 458, 3) := by decide +kernel
theorem dX10_fillsServe_93 : decode cX10_fillsServe 93 = .ok (.istore 4, 2) := by decide +kernel
theorem dX10_fillsServe_95 : decode cX10_fillsServe 95 = .ok (.iload 4, 2) := by decide +kernel
theorem dX10_fillsServe_97 : decode cX10_fillsServe 97 = .ok (.ifCond .lt 33, 3) := by decide +kernel
theorem dX10_fillsServe_100 : decode cX10_fillsServe 100 = .ok (.aload_n 0, 1) := by decide +kernel
theorem dX10_fillsServe_101 : decode cX10_fillsServe 101 = .ok (.getfield 455, 3) := by decide +kernel
theorem dX10_fillsServe_104 : decode cX10_fillsServe 104 = .ok (.ifCond .lt 15, 3) := by decide +kernel
theorem dX10_fillsServe_107 : decode cX10_fillsServe 107 = .ok (.iload 4, 2) := by decide +kernel
theorem dX10_fillsServe_109 : decode cX10_fillsServe 109 = .ok (.aload_n 0, 1) := by decide +kernel
theorem dX10_fillsServe_110 : decode cX10_fillsServe 110 = .ok (.getfield 461, 3) := by decide +kernel
theorem dX10_fillsServe_113 : decode cX10_fillsServe 113 = .ok (.if_icmp .lt 6, 3) := by decide +kernel
theorem dX10_fillsServe_116 : decode cX10_fillsServe 116 = .ok (.goto 14, 3) := by decide +kernel
theorem dX10_fillsServe_119 : decode cX10_fillsServe 119 = .ok (.aload_n 0, 1) := by decide +kernel
theorem dX10_fillsServe_120 : decode cX10_fillsServe 120 = .ok (.iload 4, 2) := by decide +kernel
theorem dX10_fillsServe_122 : decode cX10_fillsServe 122 = .ok (.putfield 461, 3) := by decide +kernel
theorem dX10_fillsServe_125 : decode cX10_fillsServe 125 = .ok (.aload_n 0, 1) := by decide +kernel
theorem dX10_fillsServe_126 : decode cX10_fillsServe 126 = .ok (.iload_n 3, 1) := by decide +kernel
theorem dX10_fillsServe_127 : decode cX10_fillsServe 127 = .ok (.putfield 455, 3) := by decide +kernel
theorem dX10_fillsServe_130 : decode cX10_fillsServe 130 = .ok (.iinc 3 1, 3) := by decide +kernel
theorem dX10_fillsServe_133 : decode cX10_fillsServe 133 = .ok (.goto (-61), 3) := by decide +kernel
theorem dX10_fillsServe_136 : decode cX10_fillsServe 136 = .ok (.return_, 1) := by decide +kernel
theorem dX10_serve_0 : decode cX10_serve 0 = .ok (.iload_n 1, 1) := by decide +kernel
theorem dX10_serve_1 : decode cX10_serve 1 = .ok (.iconst 1, 1) := by decide +kernel
theorem dX10_serve_2 : decode cX10_serve 2 = .ok (.bipush 8, 2) := by decide +kernel
theorem dX10_serve_4 : decode cX10_serve 4 = .ok (.invokestatic 323, 3) := by decide +kernel
theorem dX10_serve_7 : decode cX10_serve 7 = .ok (.ifCond .eq 32, 3) := by decide +kernel
theorem dX10_serve_10 : decode cX10_serve 10 = .ok (.iload_n 2, 1) := by decide +kernel
theorem dX10_serve_11 : decode cX10_serve 11 = .ok (.iconst 1, 1) := by decide +kernel
theorem dX10_serve_12 : decode cX10_serve 12 = .ok (.bipush 6, 2) := by decide +kernel
theorem dX10_serve_14 : decode cX10_serve 14 = .ok (.invokestatic 323, 3) := by decide +kernel
theorem dX10_serve_17 : decode cX10_serve 17 = .ok (.ifCond .eq 22, 3) := by decide +kernel
theorem dX10_serve_20 : decode cX10_serve 20 = .ok (.iload_n 3, 1) := by decide +kernel
theorem dX10_serve_21 : decode cX10_serve 21 = .ok (.iconst (-1), 1) := by decide +kernel
theorem dX10_serve_22 : decode cX10_serve 22 = .ok (.aload_n 0, 1) := by decide +kernel
theorem dX10_serve_23 : decode cX10_serve 23 = .ok (.getfield 61, 3) := by decide +kernel
theorem dX10_serve_26 : decode cX10_serve 26 = .ok (.aload_n 0, 1) := by decide +kernel
theorem dX10_serve_27 : decode cX10_serve 27 = .ok (.getfield 239, 3) := by decide +kernel
theorem dX10_serve_30 : decode cX10_serve 30 = .ok (.iaload, 1) := by decide +kernel
theorem dX10_serve_31 : decode cX10_serve 31 = .ok (.iconst 1, 1) := by decide +kernel
theorem dX10_serve_32 : decode cX10_serve 32 = .ok (.isub, 1) := by decide +kernel
theorem dX10_serve_33 : decode cX10_serve 33 = .ok (.invokestatic 323, 3) := by decide +kernel
theorem dX10_serve_36 : decode cX10_serve 36 = .ok (.ifCond .ne 5, 3) := by decide +kernel
theorem dX10_serve_39 : decode cX10_serve 39 = .ok (.iconst (-1), 1) := by decide +kernel
theorem dX10_serve_40 : decode cX10_serve 40 = .ok (.ireturn, 1) := by decide +kernel
theorem dX10_serve_41 : decode cX10_serve 41 = .ok (.iconst 0, 1) := by decide +kernel
theorem dX10_serve_42 : decode cX10_serve 42 = .ok (.istore 4, 2) := by decide +kernel
theorem dX10_serve_44 : decode cX10_serve 44 = .ok (.iload 4, 2) := by decide +kernel
theorem dX10_serve_46 : decode cX10_serve 46 = .ok (.aload_n 0, 1) := by decide +kernel
theorem dX10_serve_47 : decode cX10_serve 47 = .ok (.getfield 61, 3) := by decide +kernel
theorem dX10_serve_50 : decode cX10_serve 50 = .ok (.aload_n 0, 1) := by decide +kernel
theorem dX10_serve_51 : decode cX10_serve 51 = .ok (.getfield 239, 3) := by decide +kernel
theorem dX10_serve_54 : decode cX10_serve 54 = .ok (.iaload, 1) := by decide +kernel
theorem dX10_serve_55 : decode cX10_serve 55 = .ok (.if_icmp .ge 29, 3) := by decide +kernel
theorem dX10_serve_58 : decode cX10_serve 58 = .ok (.aload_n 0, 1) := by decide +kernel
theorem dX10_serve_59 : decode cX10_serve 59 = .ok (.getfield 64, 3) := by decide +kernel
theorem dX10_serve_62 : decode cX10_serve 62 = .ok (.iconst 4, 1) := by decide +kernel
theorem dX10_serve_63 : decode cX10_serve 63 = .ok (.aload_n 0, 1) := by decide +kernel
theorem dX10_serve_64 : decode cX10_serve 64 = .ok (.getfield 239, 3) := by decide +kernel
theorem dX10_serve_67 : decode cX10_serve 67 = .ok (.imul, 1) := by decide +kernel
theorem dX10_serve_68 : decode cX10_serve 68 = .ok (.iload 4, 2) := by decide +kernel
theorem dX10_serve_70 : decode cX10_serve 70 = .ok (.iadd, 1) := by decide +kernel
theorem dX10_serve_71 : decode cX10_serve 71 = .ok (.iaload, 1) := by decide +kernel
theorem dX10_serve_72 : decode cX10_serve 72 = .ok (.iload_n 1, 1) := by decide +kernel
theorem dX10_serve_73 : decode cX10_serve 73 = .ok (.if_icmp .ge 5, 3) := by decide +kernel
theorem dX10_serve_76 : decode cX10_serve 76 = .ok (.iconst (-1), 1) := by decide +kernel
theorem dX10_serve_77 : decode cX10_serve 77 = .ok (.ireturn, 1) := by decide +kernel
theorem dX10_serve_78 : decode cX10_serve 78 = .ok (.iinc 4 1, 3) := by decide +kernel
theorem dX10_serve_81 : decode cX10_serve 81 = .ok (.goto (-37), 3) := by decide +kernel
theorem dX10_serve_84 : decode cX10_serve 84 = .ok (.aload_n 0, 1) := by decide +kernel
theorem dX10_serve_85 : decode cX10_serve 85 = .ok (.getfield 61, 3) := by decide +kernel
theorem dX10_serve_88 : decode cX10_serve 88 = .ok (.aload_n 0, 1) := by decide +kernel
theorem dX10_serve_89 : decode cX10_serve 89 = .ok (.getfield 239, 3) := by decide +kernel
theorem dX10_serve_92 : decode cX10_serve 92 = .ok (.iaload, 1) := by decide +kernel
theorem dX10_serve_93 : decode cX10_serve 93 = .ok (.aload_n 0, 1) := by decide +kernel
theorem dX10_serve_94 : decode cX10_serve 94 = .ok (.getfield 52, 3) := by decide +kernel
theorem dX10_serve_97 : decode cX10_serve 97 = .ok (.aload_n 0, 1) := by decide +kernel
theorem dX10_serve_98 : decode cX10_serve 98 = .ok (.getfield 239, 3) := by decide +kernel
theorem dX10_serve_101 : decode cX10_serve 101 = .ok (.iaload, 1) := by decide +kernel
theorem dX10_serve_102 : decode cX10_serve 102 = .ok (.if_icmp .le 6, 3) := by decide +kernel
theorem dX10_serve_105 : decode cX10_serve 105 = .ok (.bipush (-2), 2) := by decide +kernel
theorem dX10_serve_107 : decode cX10_serve 107 = .ok (.ireturn, 1) := by decide +kernel
theorem dX10_serve_108 : decode cX10_serve 108 = .ok (.aload_n 0, 1) := by decide +kernel
theorem dX10_serve_109 : decode cX10_serve 109 = .ok (.iload_n 1, 1) := by decide +kernel
theorem dX10_serve_110 : decode cX10_serve 110 = .ok (.iload_n 2, 1) := by decide +kernel
theorem dX10_serve_111 : decode cX10_serve 111 = .ok (.invokevirtual 464, 3) := by decide +kernel
theorem dX10_serve_114 : decode cX10_serve 114 = .ok (.iload_n 3, 1) := by decide +kernel
theorem dX10_serve_115 : decode cX10_serve 115 = .ok (.iconst (-1), 1) := by decide +kernel
theorem dX10_serve_116 : decode cX10_serve 116 = .ok (.if_icmp .ne 10, 3) := by decide +kernel
theorem dX10_serve_119 : decode cX10_serve 119 = .ok (.aload_n 0, 1) := by decide +kernel
theorem dX10_serve_120 : decode cX10_serve 120 = .ok (.getfield 461, 3) := by decide +kernel
theorem dX10_serve_123 : decode cX10_serve 123 = .ok (.goto 27, 3) := by decide +kernel
theorem dX10_serve_126 : decode cX10_serve 126 = .ok (.aload_n 0, 1) := by decide +kernel
theorem dX10_serve_127 : decode cX10_serve 127 = .ok (.getfield 455, 3) := by decide +kernel
theorem dX10_serve_130 : decode cX10_serve 130 = .ok (.aload_n 0, 1) := by decide +kernel
theorem dX10_serve_131 : decode cX10_serve 131 = .ok (.getfield 61, 3) := by decide +kernel
theorem dX10_serve_134 : decode cX10_serve 134 = .ok (.aload_n 0, 1) := by decide +kernel
theorem dX10_serve_135 : decode cX10_serve 135 = .ok (.getfield 239, 3) := by decide +kernel
theorem dX10_serve_138 : decode cX10_serve 138 = .ok (.iaload, 1) := by decide +kernel
theorem dX10_serve_139 : decode cX10_serve 139 = .ok (.iconst 1, 1) := by decide +kernel
theorem dX10_serve_140 : decode cX10_serve 140 = .ok (.isub, 1) := by decide +kernel
theorem dX10_serve_141 : decode cX10_serve 141 = .ok (.iload_n 3, 1) := by decide +kernel
theorem dX10_serve_142 : decode cX10_serve 142 = .ok (.isub, 1) := by decide +kernel
theorem dX10_serve_143 : decode cX10_serve 143 = .ok (.invokestatic 448, 3) := by decide +kernel
theorem dX10_serve_146 : decode cX10_serve 146 = .ok (.idiv, 1) := by decide +kernel
theorem dX10_serve_147 : decode cX10_serve 147 = .ok (.bipush 6, 2) := by decide +kernel
theorem dX10_serve_149 : decode cX10_serve 149 = .ok (.irem, 1) := by decide +kernel
theorem dX10_serve_150 : decode cX10_serve 150 = .ok (.ireturn, 1) := by decide +kernel
theorem dX10_suits_0 : decode cX10_suits 0 = .ok (.aload_n 0, 1) := by decide +kernel
theorem dX10_suits_1 : decode cX10_suits 1 = .ok (.iload_n 1, 1) := by decide +kernel
theorem dX10_suits_2 : decode cX10_suits 2 = .ok (.invokevirtual 387, 3) := by decide +kernel
theorem dX10_suits_5 : decode cX10_suits 5 = .ok (.ifCond .eq 23, 3) := by decide +kernel
theorem dX10_suits_8 : decode cX10_suits 8 = .ok (.iload_n 2, 1) := by decide +kernel
theorem dX10_suits_9 : decode cX10_suits 9 = .ok (.iconst 1, 1) := by decide +kernel
theorem dX10_suits_10 : decode cX10_suits 10 = .ok (.bipush 8, 2) := by decide +kernel
theorem dX10_suits_12 : decode cX10_suits 12 = .ok (.invokestatic 323, 3) := by decide +kernel
theorem dX10_suits_15 : decode cX10_suits 15 = .ok (.ifCond .eq 13, 3) := by decide +kernel
theorem dX10_suits_18 : decode cX10_suits 18 = .ok (.iload_n 3, 1) := by decide +kernel
theorem dX10_suits_19 : decode cX10_suits 19 = .ok (.iconst 1, 1) := by decide +kernel
theorem dX10_suits_20 : decode cX10_suits 20 = .ok (.bipush 6, 2) := by decide +kernel
theorem dX10_suits_22 : decode cX10_suits 22 = .ok (.invokestatic 323, 3) := by decide +kernel
theorem dX10_suits_25 : decode cX10_suits 25 = .ok (.ifCond .ne 5, 3) := by decide +kernel
theorem dX10_suits_28 : decode cX10_suits 28 = .ok (.iconst (-1), 1) := by decide +kernel
theorem dX10_suits_29 : decode cX10_suits 29 = .ok (.ireturn, 1) := by decide +kernel
theorem dX10_suits_30 : decode cX10_suits 30 = .ok (.bipush (-2), 2) := by decide +kernel
theorem dX10_suits_32 : decode cX10_suits 32 = .ok (.istore 4, 2) := by decide +kernel
theorem dX10_suits_34 : decode cX10_suits 34 = .ok (.iconst 0, 1) := by decide +kernel
theorem dX10_suits_35 : decode cX10_suits 35 = .ok (.istore 5, 2) := by decide +kernel
theorem dX10_suits_37 : decode cX10_suits 37 = .ok (.iload 5, 2) := by decide +kernel
theorem dX10_suits_39 : decode cX10_suits 39 = .ok (.aload_n 0, 1) := by decide +kernel
theorem dX10_suits_40 : decode cX10_suits 40 = .ok (.getfield 61, 3) := by decide +kernel
theorem dX10_suits_43 : decode cX10_suits 43 = .ok (.aload_n 0, 1) := by decide +kernel
theorem dX10_suits_44 : decode cX10_suits 44 = .ok (.getfield 239, 3) := by decide +kernel
theorem dX10_suits_47 : decode cX10_suits 47 = .ok (.iaload, 1) := by decide +kernel
theorem dX10_suits_48 : decode cX10_suits 48 = .ok (.if_icmp .ge 57, 3) := by decide +kernel
theorem dX10_suits_51 : decode cX10_suits 51 = .ok (.aload_n 0, 1) := by decide +kernel
theorem dX10_suits_52 : decode cX10_suits 52 = .ok (.getfield 64, 3) := by decide +kernel
theorem dX10_suits_55 : decode cX10_suits 55 = .ok (.iconst 4, 1) := by decide +kernel
theorem dX10_suits_56 : decode cX10_suits 56 = .ok (.aload_n 0, 1) := by decide +kernel
theorem dX10_suits_57 : decode cX10_suits 57 = .ok (.getfield 239, 3) := by decide +kernel
theorem dX10_suits_60 : decode cX10_suits 60 = .ok (.imul, 1) := by decide +kernel
theorem dX10_suits_61 : decode cX10_suits 61 = .ok (.iload 5, 2) := by decide +kernel
theorem dX10_suits_63 : decode cX10_suits 63 = .ok (.iadd, 1) := by decide +kernel
theorem dX10_suits_64 : decode cX10_suits 64 = .ok (.iaload, 1) := by decide +kernel
theorem dX10_suits_65 : decode cX10_suits 65 = .ok (.iload_n 2, 1) := by decide +kernel
theorem dX10_suits_66 : decode cX10_suits 66 = .ok (.if_icmp .lt 33, 3) := by decide +kernel
theorem dX10_suits_69 : decode cX10_suits 69 = .ok (.iload 4, 2) := by decide +kernel
theorem dX10_suits_71 : decode cX10_suits 71 = .ok (.ifCond .lt 24, 3) := by decide +kernel
theorem dX10_suits_74 : decode cX10_suits 74 = .ok (.aload_n 0, 1) := by decide +kernel
theorem dX10_suits_75 : decode cX10_suits 75 = .ok (.iload 5, 2) := by decide +kernel
theorem dX10_suits_77 : decode cX10_suits 77 = .ok (.iload_n 1, 1) := by decide +kernel
theorem dX10_suits_78 : decode cX10_suits 78 = .ok (.iload_n 2, 1) := by decide +kernel
theorem dX10_suits_79 : decode cX10_suits 79 = .ok (.iload_n 3, 1) := by decide +kernel
theorem dX10_suits_80 : decode cX10_suits 80 = .ok (.invokevirtual 451, 3) := by decide +kernel
theorem dX10_suits_83 : decode cX10_suits 83 = .ok (.aload_n 0, 1) := by decide +kernel
theorem dX10_suits_84 : decode cX10_suits 84 = .ok (.iload 4, 2) := by decide +kernel
theorem dX10_suits_86 : decode cX10_suits 86 = .ok (.iload_n 1, 1) := by decide +kernel
theorem dX10_suits_87 : decode cX10_suits 87 = .ok (.iload_n 2, 1) := by decide +kernel
theorem dX10_suits_88 : decode cX10_suits 88 = .ok (.iload_n 3, 1) := by decide +kernel
theorem dX10_suits_89 : decode cX10_suits 89 = .ok (.invokevirtual 451, 3) := by decide +kernel
theorem dX10_suits_92 : decode cX10_suits 92 = .ok (.if_icmp .ge 7, 3) := by decide +kernel
theorem dX10_suits_95 : decode cX10_suits 95 = .ok (.iload 5, 2) := by decide +kernel
theorem dX10_suits_97 : decode cX10_suits 97 = .ok (.istore 4, 2) := by decide +kernel
theorem dX10_suits_99 : decode cX10_suits 99 = .ok (.iinc 5 1, 3) := by decide +kernel
theorem dX10_suits_102 : decode cX10_suits 102 = .ok (.goto (-65), 3) := by decide +kernel
theorem dX10_suits_105 : decode cX10_suits 105 = .ok (.iload 4, 2) := by decide +kernel
theorem dX10_suits_107 : decode cX10_suits 107 = .ok (.ireturn, 1) := by decide +kernel
theorem dX10_now_0 : decode cX10_now 0 = .ok (.aload_n 0, 1) := by decide +kernel
theorem dX10_now_1 : decode cX10_now 1 = .ok (.iload_n 1, 1) := by decide +kernel
theorem dX10_now_2 : decode cX10_now 2 = .ok (.invokevirtual 387, 3) := by decide +kernel
theorem dX10_now_5 : decode cX10_now 5 = .ok (.ifCond .ne 5, 3) := by decide +kernel
theorem dX10_now_8 : decode cX10_now 8 = .ok (.iconst (-1), 1) := by decide +kernel
theorem dX10_now_9 : decode cX10_now 9 = .ok (.ireturn, 1) := by decide +kernel
theorem dX10_now_10 : decode cX10_now 10 = .ok (.aload_n 0, 1) := by decide +kernel
theorem dX10_now_11 : decode cX10_now 11 = .ok (.invokevirtual 381, 3) := by decide +kernel
theorem dX10_now_14 : decode cX10_now 14 = .ok (.iconst 0, 1) := by decide +kernel
theorem dX10_now_15 : decode cX10_now 15 = .ok (.istore_n 3, 1) := by decide +kernel
theorem dX10_now_16 : decode cX10_now 16 = .ok (.iconst 0, 1) := by decide +kernel
theorem dX10_now_17 : decode cX10_now 17 = .ok (.istore 4, 2) := by decide +kernel
theorem dX10_now_19 : decode cX10_now 19 = .ok (.iload 4, 2) := by decide +kernel
theorem dX10_now_21 : decode cX10_now 21 = .ok (.bipush 48, 2) := by decide +kernel
theorem dX10_now_23 : decode cX10_now 23 = .ok (.if_icmp .ge 56, 3) := by decide +kernel
theorem dX10_now_26 : decode cX10_now 26 = .ok (.aload_n 0, 1) := by decide +kernel
theorem dX10_now_27 : decode cX10_now 27 = .ok (.iload 4, 2) := by decide +kernel
theorem dX10_now_29 : decode cX10_now 29 = .ok (.invokevirtual 366, 3) := by decide +kernel
theorem dX10_now_32 : decode cX10_now 32 = .ok (.ifCond .eq 41, 3) := by decide +kernel
theorem dX10_now_35 : decode cX10_now 35 = .ok (.aload_n 0, 1) := by decide +kernel
theorem dX10_now_36 : decode cX10_now 36 = .ok (.iload 4, 2) := by decide +kernel
theorem dX10_now_38 : decode cX10_now 38 = .ok (.invokevirtual 347, 3) := by decide +kernel
theorem dX10_now_41 : decode cX10_now 41 = .ok (.iload_n 1, 1) := by decide +kernel
theorem dX10_now_42 : decode cX10_now 42 = .ok (.if_icmp .ne 31, 3) := by decide +kernel
theorem dX10_now_45 : decode cX10_now 45 = .ok (.iload_n 2, 1) := by decide +kernel
theorem dX10_now_46 : decode cX10_now 46 = .ok (.ifCond .eq 15, 3) := by decide +kernel
theorem dX10_now_49 : decode cX10_now 49 = .ok (.aload_n 0, 1) := by decide +kernel
theorem dX10_now_50 : decode cX10_now 50 = .ok (.iload 4, 2) := by decide +kernel
theorem dX10_now_52 : decode cX10_now 52 = .ok (.invokevirtual 372, 3) := by decide +kernel
theorem dX10_now_55 : decode cX10_now 55 = .ok (.ifCond .eq 18, 3) := by decide +kernel
theorem dX10_now_58 : decode cX10_now 58 = .ok (.goto 12, 3) := by decide +kernel
theorem dX10_now_61 : decode cX10_now 61 = .ok (.aload_n 0, 1) := by decide +kernel
theorem dX10_now_62 : decode cX10_now 62 = .ok (.iload 4, 2) := by decide +kernel
theorem dX10_now_64 : decode cX10_now 64 = .ok (.invokevirtual 369, 3) := by decide +kernel
theorem dX10_now_67 : decode cX10_now 67 = .ok (.ifCond .eq 6, 3) := by decide +kernel
theorem dX10_now_70 : decode cX10_now 70 = .ok (.iinc 3 1, 3) := by decide +kernel
theorem dX10_now_73 : decode cX10_now 73 = .ok (.iinc 4 1, 3) := by decide +kernel
theorem dX10_now_76 : decode cX10_now 76 = .ok (.goto (-57), 3) := by decide +kernel
theorem dX10_now_79 : decode cX10_now 79 = .ok (.iload_n 3, 1) := by decide +kernel
theorem dX10_now_80 : decode cX10_now 80 = .ok (.ireturn, 1) := by decide +kernel
theorem dX10_year_0 : decode cX10_year 0 = .ok (.iload_n 1, 1) := by decide +kernel
theorem dX10_year_1 : decode cX10_year 1 = .ok (.invokestatic 442, 3) := by decide +kernel
theorem dX10_year_4 : decode cX10_year 4 = .ok (.ifCond .eq 13, 3) := by decide +kernel
theorem dX10_year_7 : decode cX10_year 7 = .ok (.iload_n 2, 1) := by decide +kernel
theorem dX10_year_8 : decode cX10_year 8 = .ok (.iconst 1, 1) := by decide +kernel
theorem dX10_year_9 : decode cX10_year 9 = .ok (.bipush 20, 2) := by decide +kernel
theorem dX10_year_11 : decode cX10_year 11 = .ok (.invokestatic 323, 3) := by decide +kernel
theorem dX10_year_14 : decode cX10_year 14 = .ok (.ifCond .ne 5, 3) := by decide +kernel
theorem dX10_year_17 : decode cX10_year 17 = .ok (.iconst (-1), 1) := by decide +kernel
theorem dX10_year_18 : decode cX10_year 18 = .ok (.ireturn, 1) := by decide +kernel
theorem dX10_year_19 : decode cX10_year 19 = .ok (.iconst 0, 1) := by decide +kernel
theorem dX10_year_20 : decode cX10_year 20 = .ok (.istore_n 3, 1) := by decide +kernel
theorem dX10_year_21 : decode cX10_year 21 = .ok (.iconst 0, 1) := by decide +kernel
theorem dX10_year_22 : decode cX10_year 22 = .ok (.istore 4, 2) := by decide +kernel
theorem dX10_year_24 : decode cX10_year 24 = .ok (.iload 4, 2) := by decide +kernel
theorem dX10_year_26 : decode cX10_year 26 = .ok (.iload_n 2, 1) := by decide +kernel
theorem dX10_year_27 : decode cX10_year 27 = .ok (.if_icmp .ge 38, 3) := by decide +kernel
theorem dX10_year_30 : decode cX10_year 30 = .ok (.aload_n 0, 1) := by decide +kernel
theorem dX10_year_31 : decode cX10_year 31 = .ok (.invokevirtual 381, 3) := by decide +kernel
theorem dX10_year_34 : decode cX10_year 34 = .ok (.aload_n 0, 1) := by decide +kernel
theorem dX10_year_35 : decode cX10_year 35 = .ok (.dup, 1) := by decide +kernel
theorem dX10_year_36 : decode cX10_year 36 = .ok (.getfield 327, 3) := by decide +kernel
theorem dX10_year_39 : decode cX10_year 39 = .ok (.iload 4, 2) := by decide +kernel
theorem dX10_year_41 : decode cX10_year 41 = .ok (.iadd, 1) := by decide +kernel
theorem dX10_year_42 : decode cX10_year 42 = .ok (.putfield 327, 3) := by decide +kernel
theorem dX10_year_45 : decode cX10_year 45 = .ok (.aload_n 0, 1) := by decide +kernel
theorem dX10_year_46 : decode cX10_year 46 = .ok (.iload_n 1, 1) := by decide +kernel
theorem dX10_year_47 : decode cX10_year 47 = .ok (.invokevirtual 402, 3) := by decide +kernel
theorem dX10_year_50 : decode cX10_year 50 = .ok (.iload_n 3, 1) := by decide +kernel
theorem dX10_year_51 : decode cX10_year 51 = .ok (.aload_n 0, 1) := by decide +kernel
theorem dX10_year_52 : decode cX10_year 52 = .ok (.bipush 76, 2) := by decide +kernel
theorem dX10_year_54 : decode cX10_year 54 = .ok (.invokevirtual 445, 3) := by decide +kernel
theorem dX10_year_57 : decode cX10_year 57 = .ok (.iadd, 1) := by decide +kernel
theorem dX10_year_58 : decode cX10_year 58 = .ok (.istore_n 3, 1) := by decide +kernel
theorem dX10_year_59 : decode cX10_year 59 = .ok (.iinc 4 1, 3) := by decide +kernel
theorem dX10_year_62 : decode cX10_year 62 = .ok (.goto (-38), 3) := by decide +kernel
theorem dX10_year_65 : decode cX10_year 65 = .ok (.iload_n 3, 1) := by decide +kernel
theorem dX10_year_66 : decode cX10_year 66 = .ok (.ireturn, 1) := by decide +kernel
theorem dX10_tell_0 : decode cX10_tell 0 = .ok (.aload_n 0, 1) := by decide +kernel
theorem dX10_tell_1 : decode cX10_tell 1 = .ok (.getfield 268, 3) := by decide +kernel
theorem dX10_tell_4 : decode cX10_tell 4 = .ok (.bipush 20, 2) := by decide +kernel
theorem dX10_tell_6 : decode cX10_tell 6 = .ok (.if_icmp .eq 23, 3) := by decide +kernel
theorem dX10_tell_9 : decode cX10_tell 9 = .ok (.aload_n 0, 1) := by decide +kernel
theorem dX10_tell_10 : decode cX10_tell 10 = .ok (.iload_n 1, 1) := by decide +kernel
theorem dX10_tell_11 : decode cX10_tell 11 = .ok (.iload_n 2, 1) := by decide +kernel
theorem dX10_tell_12 : decode cX10_tell 12 = .ok (.invokevirtual 343, 3) := by decide +kernel
theorem dX10_tell_15 : decode cX10_tell 15 = .ok (.ifCond .eq 14, 3) := by decide +kernel
theorem dX10_tell_18 : decode cX10_tell 18 = .ok (.iload_n 3, 1) := by decide +kernel
theorem dX10_tell_19 : decode cX10_tell 19 = .ok (.iconst 0, 1) := by decide +kernel
theorem dX10_tell_20 : decode cX10_tell 20 = .ok (.sipush 999, 3) := by decide +kernel
theorem dX10_tell_23 : decode cX10_tell 23 = .ok (.invokestatic 323, 3) := by decide +kernel
theorem dX10_tell_26 : decode cX10_tell 26 = .ok (.ifCond .ne 5, 3) := by decide +kernel
theorem dX10_tell_29 : decode cX10_tell 29 = .ok (.iconst (-1), 1) := by decide +kernel
theorem dX10_tell_30 : decode cX10_tell 30 = .ok (.ireturn, 1) := by decide +kernel
theorem dX10_tell_31 : decode cX10_tell 31 = .ok (.aload_n 0, 1) := by decide +kernel
theorem dX10_tell_32 : decode cX10_tell 32 = .ok (.getfield 140, 3) := by decide +kernel
theorem dX10_tell_35 : decode cX10_tell 35 = .ok (.aload_n 0, 1) := by decide +kernel
theorem dX10_tell_36 : decode cX10_tell 36 = .ok (.getfield 268, 3) := by decide +kernel
theorem dX10_tell_39 : decode cX10_tell 39 = .ok (.bipush 8, 2) := by decide +kernel
theorem dX10_tell_41 : decode cX10_tell 41 = .ok (.iload_n 2, 1) := by decide +kernel
theorem dX10_tell_42 : decode cX10_tell 42 = .ok (.imul, 1) := by decide +kernel
theorem dX10_tell_43 : decode cX10_tell 43 = .ok (.iload_n 1, 1) := by decide +kernel
theorem dX10_tell_44 : decode cX10_tell 44 = .ok (.iadd, 1) := by decide +kernel
theorem dX10_tell_45 : decode cX10_tell 45 = .ok (.iastore, 1) := by decide +kernel
theorem dX10_tell_46 : decode cX10_tell 46 = .ok (.aload_n 0, 1) := by decide +kernel
theorem dX10_tell_47 : decode cX10_tell 47 = .ok (.getfield 143, 3) := by decide +kernel
theorem dX10_tell_50 : decode cX10_tell 50 = .ok (.aload_n 0, 1) := by decide +kernel
theorem dX10_tell_51 : decode cX10_tell 51 = .ok (.getfield 268, 3) := by decide +kernel
theorem dX10_tell_54 : decode cX10_tell 54 = .ok (.iload_n 3, 1) := by decide +kernel
theorem dX10_tell_55 : decode cX10_tell 55 = .ok (.iastore, 1) := by decide +kernel
theorem dX10_tell_56 : decode cX10_tell 56 = .ok (.aload_n 0, 1) := by decide +kernel
theorem dX10_tell_57 : decode cX10_tell 57 = .ok (.dup, 1) := by decide +kernel
theorem dX10_tell_58 : decode cX10_tell 58 = .ok (.getfield 268, 3) := by decide +kernel
theorem dX10_tell_61 : decode cX10_tell 61 = .ok (.iconst 1, 1) := by decide +kernel
theorem dX10_tell_62 : decode cX10_tell 62 = .ok (.iadd, 1) := by decide +kernel
theorem dX10_tell_63 : decode cX10_tell 63 = .ok (.putfield 268, 3) := by decide +kernel
theorem dX10_tell_66 : decode cX10_tell 66 = .ok (.aload_n 0, 1) := by decide +kernel
theorem dX10_tell_67 : decode cX10_tell 67 = .ok (.getfield 268, 3) := by decide +kernel
theorem dX10_tell_70 : decode cX10_tell 70 = .ok (.iconst 1, 1) := by decide +kernel
theorem dX10_tell_71 : decode cX10_tell 71 = .ok (.isub, 1) := by decide +kernel
theorem dX10_tell_72 : decode cX10_tell 72 = .ok (.ireturn, 1) := by decide +kernel
theorem dX10_forget_0 : decode cX10_forget 0 = .ok (.aload_n 0, 1) := by decide +kernel
theorem dX10_forget_1 : decode cX10_forget 1 = .ok (.getfield 268, 3) := by decide +kernel
theorem dX10_forget_4 : decode cX10_forget 4 = .ok (.istore_n 1, 1) := by decide +kernel
theorem dX10_forget_5 : decode cX10_forget 5 = .ok (.aload_n 0, 1) := by decide +kernel
theorem dX10_forget_6 : decode cX10_forget 6 = .ok (.iconst 0, 1) := by decide +kernel
theorem dX10_forget_7 : decode cX10_forget 7 = .ok (.putfield 268, 3) := by decide +kernel
theorem dX10_forget_10 : decode cX10_forget 10 = .ok (.iload_n 1, 1) := by decide +kernel
theorem dX10_forget_11 : decode cX10_forget 11 = .ok (.ireturn, 1) := by decide +kernel
theorem dX10_wetBy_0 : decode cX10_wetBy 0 = .ok (.iload 4, 2) := by decide +kernel
theorem dX10_wetBy_2 : decode cX10_wetBy 2 = .ok (.bipush 8, 2) := by decide +kernel
theorem dX10_wetBy_4 : decode cX10_wetBy 4 = .ok (.irem, 1) := by decide +kernel
theorem dX10_wetBy_5 : decode cX10_wetBy 5 = .ok (.iload_n 1, 1) := by decide +kernel
theorem dX10_wetBy_6 : decode cX10_wetBy 6 = .ok (.bipush 8, 2) := by decide +kernel
theorem dX10_wetBy_8 : decode cX10_wetBy 8 = .ok (.irem, 1) := by decide +kernel
theorem dX10_wetBy_9 : decode cX10_wetBy 9 = .ok (.isub, 1) := by decide +kernel
theorem dX10_wetBy_10 : decode cX10_wetBy 10 = .ok (.istore 5, 2) := by decide +kernel
theorem dX10_wetBy_12 : decode cX10_wetBy 12 = .ok (.iload 4, 2) := by decide +kernel
theorem dX10_wetBy_14 : decode cX10_wetBy 14 = .ok (.bipush 8, 2) := by decide +kernel
theorem dX10_wetBy_16 : decode cX10_wetBy 16 = .ok (.idiv, 1) := by decide +kernel
theorem dX10_wetBy_17 : decode cX10_wetBy 17 = .ok (.iload_n 1, 1) := by decide +kernel
theorem dX10_wetBy_18 : decode cX10_wetBy 18 = .ok (.bipush 8, 2) := by decide +kernel
theorem dX10_wetBy_20 : decode cX10_wetBy 20 = .ok (.idiv, 1) := by decide +kernel
theorem dX10_wetBy_21 : decode cX10_wetBy 21 = .ok (.bipush 8, 2) := by decide +kernel
theorem dX10_wetBy_23 : decode cX10_wetBy 23 = .ok (.irem, 1) := by decide +kernel
theorem dX10_wetBy_24 : decode cX10_wetBy 24 = .ok (.isub, 1) := by decide +kernel
theorem dX10_wetBy_25 : decode cX10_wetBy 25 = .ok (.istore 6, 2) := by decide +kernel
theorem dX10_wetBy_27 : decode cX10_wetBy 27 = .ok (.iload 5, 2) := by decide +kernel
theorem dX10_wetBy_29 : decode cX10_wetBy 29 = .ok (.iconst 0, 1) := by decide +kernel
theorem dX10_wetBy_30 : decode cX10_wetBy 30 = .ok (.iload_n 2, 1) := by decide +kernel
theorem dX10_wetBy_31 : decode cX10_wetBy 31 = .ok (.iconst 1, 1) := by decide +kernel
theorem dX10_wetBy_32 : decode cX10_wetBy 32 = .ok (.isub, 1) := by decide +kernel
theorem dX10_wetBy_33 : decode cX10_wetBy 33 = .ok (.invokestatic 323, 3) := by decide +kernel
theorem dX10_wetBy_36 : decode cX10_wetBy 36 = .ok (.ifCond .eq 43, 3) := by decide +kernel
theorem dX10_wetBy_39 : decode cX10_wetBy 39 = .ok (.iload 6, 2) := by decide +kernel
theorem dX10_wetBy_41 : decode cX10_wetBy 41 = .ok (.iconst 0, 1) := by decide +kernel
theorem dX10_wetBy_42 : decode cX10_wetBy 42 = .ok (.iload_n 3, 1) := by decide +kernel
theorem dX10_wetBy_43 : decode cX10_wetBy 43 = .ok (.iconst 1, 1) := by decide +kernel
theorem dX10_wetBy_44 : decode cX10_wetBy 44 = .ok (.isub, 1) := by decide +kernel
theorem dX10_wetBy_45 : decode cX10_wetBy 45 = .ok (.invokestatic 323, 3) := by decide +kernel
theorem dX10_wetBy_48 : decode cX10_wetBy 48 = .ok (.ifCond .eq 31, 3) := by decide +kernel
theorem dX10_wetBy_51 : decode cX10_wetBy 51 = .ok (.aload_n 0, 1) := by decide +kernel
theorem dX10_wetBy_52 : decode cX10_wetBy 52 = .ok (.iload_n 1, 1) := by decide +kernel
theorem dX10_wetBy_53 : decode cX10_wetBy 53 = .ok (.bipush 64, 2) := by decide +kernel
theorem dX10_wetBy_55 : decode cX10_wetBy 55 = .ok (.idiv, 1) := by decide +kernel
theorem dX10_wetBy_56 : decode cX10_wetBy 56 = .ok (.iload 5, 2) := by decide +kernel
theorem dX10_wetBy_58 : decode cX10_wetBy 58 = .ok (.aload_n 0, 1) := by decide +kernel
theorem dX10_wetBy_59 : decode cX10_wetBy 59 = .ok (.getfield 116, 3) := by decide +kernel
theorem dX10_wetBy_62 : decode cX10_wetBy 62 = .ok (.bipush 48, 2) := by decide +kernel
theorem dX10_wetBy_64 : decode cX10_wetBy 64 = .ok (.iload_n 1, 1) := by decide +kernel
theorem dX10_wetBy_65 : decode cX10_wetBy 65 = .ok (.bipush 64, 2) := by decide +kernel
theorem dX10_wetBy_67 : decode cX10_wetBy 67 = .ok (.idiv, 1) := by decide +kernel
theorem dX10_wetBy_68 : decode cX10_wetBy 68 = .ok (.iadd, 1) := by decide +kernel
theorem dX10_wetBy_69 : decode cX10_wetBy 69 = .ok (.iaload, 1) := by decide +kernel
theorem dX10_wetBy_70 : decode cX10_wetBy 70 = .ok (.iload 6, 2) := by decide +kernel
theorem dX10_wetBy_72 : decode cX10_wetBy 72 = .ok (.iadd, 1) := by decide +kernel
theorem dX10_wetBy_73 : decode cX10_wetBy 73 = .ok (.invokevirtual 356, 3) := by decide +kernel
theorem dX10_wetBy_76 : decode cX10_wetBy 76 = .ok (.goto 4, 3) := by decide +kernel
theorem dX10_wetBy_79 : decode cX10_wetBy 79 = .ok (.iconst 0, 1) := by decide +kernel
theorem dX10_wetBy_80 : decode cX10_wetBy 80 = .ok (.ireturn, 1) := by decide +kernel
theorem dX10_isWay_0 : decode cX10_isWay 0 = .ok (.aload_n 0, 1) := by decide +kernel
theorem dX10_isWay_1 : decode cX10_isWay 1 = .ok (.iload_n 1, 1) := by decide +kernel
theorem dX10_isWay_2 : decode cX10_isWay 2 = .ok (.bipush 64, 2) := by decide +kernel
theorem dX10_isWay_4 : decode cX10_isWay 4 = .ok (.idiv, 1) := by decide +kernel
theorem dX10_isWay_5 : decode cX10_isWay 5 = .ok (.invokevirtual 393, 3) := by decide +kernel
theorem dX10_isWay_8 : decode cX10_isWay 8 = .ok (.ifCond .eq 62, 3) := by decide +kernel
theorem dX10_isWay_11 : decode cX10_isWay 11 = .ok (.aload_n 0, 1) := by decide +kernel
theorem dX10_isWay_12 : decode cX10_isWay 12 = .ok (.getfield 64, 3) := by decide +kernel
theorem dX10_isWay_15 : decode cX10_isWay 15 = .ok (.iconst 4, 1) := by decide +kernel
theorem dX10_isWay_16 : decode cX10_isWay 16 = .ok (.aload_n 0, 1) := by decide +kernel
theorem dX10_isWay_17 : decode cX10_isWay 17 = .ok (.getfield 239, 3) := by decide +kernel
theorem dX10_isWay_20 : decode cX10_isWay 20 = .ok (.imul, 1) := by decide +kernel
theorem dX10_isWay_21 : decode cX10_isWay 21 = .ok (.iload_n 1, 1) := by decide +kernel
theorem dX10_isWay_22 : decode cX10_isWay 22 = .ok (.bipush 64, 2) := by decide +kernel
theorem dX10_isWay_24 : decode cX10_isWay 24 = .ok (.idiv, 1) := by decide +kernel
theorem dX10_isWay_25 : decode cX10_isWay 25 = .ok (.iadd, 1) := by decide +kernel
theorem dX10_isWay_26 : decode cX10_isWay 26 = .ok (.iaload, 1) := by decide +kernel
theorem dX10_isWay_27 : decode cX10_isWay 27 = .ok (.iload_n 2, 1) := by decide +kernel
theorem dX10_isWay_28 : decode cX10_isWay 28 = .ok (.if_icmp .lt 42, 3) := by decide +kernel
theorem dX10_isWay_31 : decode cX10_isWay 31 = .ok (.iload_n 1, 1) := by decide +kernel
theorem dX10_isWay_32 : decode cX10_isWay 32 = .ok (.bipush 8, 2) := by decide +kernel
theorem dX10_isWay_34 : decode cX10_isWay 34 = .ok (.irem, 1) := by decide +kernel
theorem dX10_isWay_35 : decode cX10_isWay 35 = .ok (.iload_n 2, 1) := by decide +kernel
theorem dX10_isWay_36 : decode cX10_isWay 36 = .ok (.iadd, 1) := by decide +kernel
theorem dX10_isWay_37 : decode cX10_isWay 37 = .ok (.aload_n 0, 1) := by decide +kernel
theorem dX10_isWay_38 : decode cX10_isWay 38 = .ok (.getfield 46, 3) := by decide +kernel
theorem dX10_isWay_41 : decode cX10_isWay 41 = .ok (.aload_n 0, 1) := by decide +kernel
theorem dX10_isWay_42 : decode cX10_isWay 42 = .ok (.getfield 239, 3) := by decide +kernel
theorem dX10_isWay_45 : decode cX10_isWay 45 = .ok (.iaload, 1) := by decide +kernel
theorem dX10_isWay_46 : decode cX10_isWay 46 = .ok (.if_icmp .gt 24, 3) := by decide +kernel
theorem dX10_isWay_49 : decode cX10_isWay 49 = .ok (.iload_n 1, 1) := by decide +kernel
theorem dX10_isWay_50 : decode cX10_isWay 50 = .ok (.bipush 8, 2) := by decide +kernel
theorem dX10_isWay_52 : decode cX10_isWay 52 = .ok (.idiv, 1) := by decide +kernel
theorem dX10_isWay_53 : decode cX10_isWay 53 = .ok (.bipush 8, 2) := by decide +kernel
theorem dX10_isWay_55 : decode cX10_isWay 55 = .ok (.irem, 1) := by decide +kernel
theorem dX10_isWay_56 : decode cX10_isWay 56 = .ok (.iload_n 3, 1) := by decide +kernel
theorem dX10_isWay_57 : decode cX10_isWay 57 = .ok (.iadd, 1) := by decide +kernel
theorem dX10_isWay_58 : decode cX10_isWay 58 = .ok (.aload_n 0, 1) := by decide +kernel
theorem dX10_isWay_59 : decode cX10_isWay 59 = .ok (.getfield 43, 3) := by decide +kernel
theorem dX10_isWay_62 : decode cX10_isWay 62 = .ok (.aload_n 0, 1) := by decide +kernel
theorem dX10_isWay_63 : decode cX10_isWay 63 = .ok (.getfield 239, 3) := by decide +kernel
theorem dX10_isWay_66 : decode cX10_isWay 66 = .ok (.iaload, 1) := by decide +kernel
theorem dX10_isWay_67 : decode cX10_isWay 67 = .ok (.if_icmp .le 5, 3) := by decide +kernel
theorem dX10_isWay_70 : decode cX10_isWay 70 = .ok (.iconst 0, 1) := by decide +kernel
theorem dX10_isWay_71 : decode cX10_isWay 71 = .ok (.ireturn, 1) := by decide +kernel
theorem dX10_isWay_72 : decode cX10_isWay 72 = .ok (.iconst 0, 1) := by decide +kernel
theorem dX10_isWay_73 : decode cX10_isWay 73 = .ok (.istore 5, 2) := by decide +kernel
theorem dX10_isWay_75 : decode cX10_isWay 75 = .ok (.iload 5, 2) := by decide +kernel
theorem dX10_isWay_77 : decode cX10_isWay 77 = .ok (.iload 4, 2) := by decide +kernel
theorem dX10_isWay_79 : decode cX10_isWay 79 = .ok (.if_icmp .ge 35, 3) := by decide +kernel
theorem dX10_isWay_82 : decode cX10_isWay 82 = .ok (.aload_n 0, 1) := by decide +kernel
theorem dX10_isWay_83 : decode cX10_isWay 83 = .ok (.iload_n 1, 1) := by decide +kernel
theorem dX10_isWay_84 : decode cX10_isWay 84 = .ok (.iload_n 2, 1) := by decide +kernel
theorem dX10_isWay_85 : decode cX10_isWay 85 = .ok (.iload_n 3, 1) := by decide +kernel
theorem dX10_isWay_86 : decode cX10_isWay 86 = .ok (.aload_n 0, 1) := by decide +kernel
theorem dX10_isWay_87 : decode cX10_isWay 87 = .ok (.getfield 140, 3) := by decide +kernel
theorem dX10_isWay_90 : decode cX10_isWay 90 = .ok (.iload 5, 2) := by decide +kernel
theorem dX10_isWay_92 : decode cX10_isWay 92 = .ok (.iaload, 1) := by decide +kernel
theorem dX10_isWay_93 : decode cX10_isWay 93 = .ok (.invokevirtual 467, 3) := by decide +kernel
theorem dX10_isWay_96 : decode cX10_isWay 96 = .ok (.aload_n 0, 1) := by decide +kernel
theorem dX10_isWay_97 : decode cX10_isWay 97 = .ok (.getfield 143, 3) := by decide +kernel
theorem dX10_isWay_100 : decode cX10_isWay 100 = .ok (.iload 5, 2) := by decide +kernel
theorem dX10_isWay_102 : decode cX10_isWay 102 = .ok (.iaload, 1) := by decide +kernel
theorem dX10_isWay_103 : decode cX10_isWay 103 = .ok (.if_icmp .eq 5, 3) := by decide +kernel
theorem dX10_isWay_106 : decode cX10_isWay 106 = .ok (.iconst 0, 1) := by decide +kernel
theorem dX10_isWay_107 : decode cX10_isWay 107 = .ok (.ireturn, 1) := by decide +kernel
theorem dX10_isWay_108 : decode cX10_isWay 108 = .ok (.iinc 5 1, 3) := by decide +kernel
theorem dX10_isWay_111 : decode cX10_isWay 111 = .ok (.goto (-36), 3) := by decide +kernel
theorem dX10_isWay_114 : decode cX10_isWay 114 = .ok (.iconst 1, 1) := by decide +kernel
theorem dX10_isWay_115 : decode cX10_isWay 115 = .ok (.ireturn, 1) := by decide +kernel
theorem dX10_isAsked_0 : decode cX10_isAsked 0 = .ok (.iload_n 1, 1) := by decide +kernel
theorem dX10_isAsked_1 : decode cX10_isAsked 1 = .ok (.iconst 0, 1) := by decide +kernel
theorem dX10_isAsked_2 : decode cX10_isAsked 2 = .ok (.aload_n 0, 1) := by decide +kernel
theorem dX10_isAsked_3 : decode cX10_isAsked 3 = .ok (.getfield 268, 3) := by decide +kernel
theorem dX10_isAsked_6 : decode cX10_isAsked 6 = .ok (.invokestatic 323, 3) := by decide +kernel
theorem dX10_isAsked_9 : decode cX10_isAsked 9 = .ok (.ifCond .eq 27, 3) := by decide +kernel
theorem dX10_isAsked_12 : decode cX10_isAsked 12 = .ok (.iload_n 2, 1) := by decide +kernel
theorem dX10_isAsked_13 : decode cX10_isAsked 13 = .ok (.iconst 1, 1) := by decide +kernel
theorem dX10_isAsked_14 : decode cX10_isAsked 14 = .ok (.bipush 8, 2) := by decide +kernel
theorem dX10_isAsked_16 : decode cX10_isAsked 16 = .ok (.invokestatic 323, 3) := by decide +kernel
theorem dX10_isAsked_19 : decode cX10_isAsked 19 = .ok (.ifCond .eq 17, 3) := by decide +kernel
theorem dX10_isAsked_22 : decode cX10_isAsked 22 = .ok (.iload_n 3, 1) := by decide +kernel
theorem dX10_isAsked_23 : decode cX10_isAsked 23 = .ok (.iconst 1, 1) := by decide +kernel
theorem dX10_isAsked_24 : decode cX10_isAsked 24 = .ok (.bipush 6, 2) := by decide +kernel
theorem dX10_isAsked_26 : decode cX10_isAsked 26 = .ok (.invokestatic 323, 3) := by decide +kernel
theorem dX10_isAsked_29 : decode cX10_isAsked 29 = .ok (.ifCond .eq 7, 3) := by decide +kernel
theorem dX10_isAsked_32 : decode cX10_isAsked 32 = .ok (.iconst 1, 1) := by decide +kernel
theorem dX10_isAsked_33 : decode cX10_isAsked 33 = .ok (.goto 4, 3) := by decide +kernel
theorem dX10_isAsked_36 : decode cX10_isAsked 36 = .ok (.iconst 0, 1) := by decide +kernel
theorem dX10_isAsked_37 : decode cX10_isAsked 37 = .ok (.ireturn, 1) := by decide +kernel
theorem dX10_fell_0 : decode cX10_fell 0 = .ok (.aload_n 0, 1) := by decide +kernel
theorem dX10_fell_1 : decode cX10_fell 1 = .ok (.iload_n 1, 1) := by decide +kernel
theorem dX10_fell_2 : decode cX10_fell 2 = .ok (.iload_n 2, 1) := by decide +kernel
theorem dX10_fell_3 : decode cX10_fell 3 = .ok (.iload_n 3, 1) := by decide +kernel
theorem dX10_fell_4 : decode cX10_fell 4 = .ok (.invokevirtual 470, 3) := by decide +kernel
theorem dX10_fell_7 : decode cX10_fell 7 = .ok (.ifCond .eq 9, 3) := by decide +kernel
theorem dX10_fell_10 : decode cX10_fell 10 = .ok (.iload 4, 2) := by decide +kernel
theorem dX10_fell_12 : decode cX10_fell 12 = .ok (.iconst (-1), 1) := by decide +kernel
theorem dX10_fell_13 : decode cX10_fell 13 = .ok (.if_icmp .ge 5, 3) := by decide +kernel
theorem dX10_fell_16 : decode cX10_fell 16 = .ok (.iconst (-1), 1) := by decide +kernel
theorem dX10_fell_17 : decode cX10_fell 17 = .ok (.ireturn, 1) := by decide +kernel
theorem dX10_fell_18 : decode cX10_fell 18 = .ok (.iconst 0, 1) := by decide +kernel
theorem dX10_fell_19 : decode cX10_fell 19 = .ok (.istore 5, 2) := by decide +kernel
theorem dX10_fell_21 : decode cX10_fell 21 = .ok (.iconst 0, 1) := by decide +kernel
theorem dX10_fell_22 : decode cX10_fell 22 = .ok (.istore 6, 2) := by decide +kernel
theorem dX10_fell_24 : decode cX10_fell 24 = .ok (.iload 6, 2) := by decide +kernel
theorem dX10_fell_26 : decode cX10_fell 26 = .ok (.sipush 256, 3) := by decide +kernel
theorem dX10_fell_29 : decode cX10_fell 29 = .ok (.if_icmp .ge 61, 3) := by decide +kernel
theorem dX10_fell_32 : decode cX10_fell 32 = .ok (.aload_n 0, 1) := by decide +kernel
theorem dX10_fell_33 : decode cX10_fell 33 = .ok (.iload 6, 2) := by decide +kernel
theorem dX10_fell_35 : decode cX10_fell 35 = .ok (.iload_n 2, 1) := by decide +kernel
theorem dX10_fell_36 : decode cX10_fell 36 = .ok (.iload_n 3, 1) := by decide +kernel
theorem dX10_fell_37 : decode cX10_fell 37 = .ok (.iload_n 1, 1) := by decide +kernel
theorem dX10_fell_38 : decode cX10_fell 38 = .ok (.invokevirtual 473, 3) := by decide +kernel
theorem dX10_fell_41 : decode cX10_fell 41 = .ok (.ifCond .ne 6, 3) := by decide +kernel
theorem dX10_fell_44 : decode cX10_fell 44 = .ok (.goto 40, 3) := by decide +kernel
theorem dX10_fell_47 : decode cX10_fell 47 = .ok (.iload 5, 2) := by decide +kernel
theorem dX10_fell_49 : decode cX10_fell 49 = .ok (.iload 4, 2) := by decide +kernel
theorem dX10_fell_51 : decode cX10_fell 51 = .ok (.if_icmp .ne 30, 3) := by decide +kernel
theorem dX10_fell_54 : decode cX10_fell 54 = .ok (.bipush 100, 2) := by decide +kernel
theorem dX10_fell_56 : decode cX10_fell 56 = .ok (.iload 6, 2) := by decide +kernel
theorem dX10_fell_58 : decode cX10_fell 58 = .ok (.bipush 64, 2) := by decide +kernel
theorem dX10_fell_60 : decode cX10_fell 60 = .ok (.idiv, 1) := by decide +kernel
theorem dX10_fell_61 : decode cX10_fell 61 = .ok (.imul, 1) := by decide +kernel
theorem dX10_fell_62 : decode cX10_fell 62 = .ok (.bipush 10, 2) := by decide +kernel
theorem dX10_fell_64 : decode cX10_fell 64 = .ok (.iload 6, 2) := by decide +kernel
theorem dX10_fell_66 : decode cX10_fell 66 = .ok (.bipush 8, 2) := by decide +kernel
theorem dX10_fell_68 : decode cX10_fell 68 = .ok (.idiv, 1) := by decide +kernel
theorem dX10_fell_69 : decode cX10_fell 69 = .ok (.bipush 8, 2) := by decide +kernel
theorem dX10_fell_71 : decode cX10_fell 71 = .ok (.irem, 1) := by decide +kernel
theorem dX10_fell_72 : decode cX10_fell 72 = .ok (.imul, 1) := by decide +kernel
theorem dX10_fell_73 : decode cX10_fell 73 = .ok (.iadd, 1) := by decide +kernel
theorem dX10_fell_74 : decode cX10_fell 74 = .ok (.iload 6, 2) := by decide +kernel
theorem dX10_fell_76 : decode cX10_fell 76 = .ok (.bipush 8, 2) := by decide +kernel
theorem dX10_fell_78 : decode cX10_fell 78 = .ok (.irem, 1) := by decide +kernel
theorem dX10_fell_79 : decode cX10_fell 79 = .ok (.iadd, 1) := by decide +kernel
theorem dX10_fell_80 : decode cX10_fell 80 = .ok (.ireturn, 1) := by decide +kernel
theorem dX10_fell_81 : decode cX10_fell 81 = .ok (.iinc 5 1, 3) := by decide +kernel
theorem dX10_fell_84 : decode cX10_fell 84 = .ok (.iinc 6 1, 3) := by decide +kernel
theorem dX10_fell_87 : decode cX10_fell 87 = .ok (.goto (-63), 3) := by decide +kernel
theorem dX10_fell_90 : decode cX10_fell 90 = .ok (.iload 4, 2) := by decide +kernel
theorem dX10_fell_92 : decode cX10_fell 92 = .ok (.iconst (-1), 1) := by decide +kernel
theorem dX10_fell_93 : decode cX10_fell 93 = .ok (.if_icmp .ne 8, 3) := by decide +kernel
theorem dX10_fell_96 : decode cX10_fell 96 = .ok (.iload 5, 2) := by decide +kernel
theorem dX10_fell_98 : decode cX10_fell 98 = .ok (.goto 4, 3) := by decide +kernel
theorem dX10_fell_101 : decode cX10_fell 101 = .ok (.iconst (-1), 1) := by decide +kernel
theorem dX10_fell_102 : decode cX10_fell 102 = .ok (.ireturn, 1) := by decide +kernel
theorem dX10_worstAt_0 : decode cX10_worstAt 0 = .ok (.iconst 0, 1) := by decide +kernel
theorem dX10_worstAt_1 : decode cX10_worstAt 1 = .ok (.istore 4, 2) := by decide +kernel
theorem dX10_worstAt_3 : decode cX10_worstAt 3 = .ok (.iload 4, 2) := by decide +kernel
theorem dX10_worstAt_5 : decode cX10_worstAt 5 = .ok (.bipush 10, 2) := by decide +kernel
theorem dX10_worstAt_7 : decode cX10_worstAt 7 = .ok (.if_icmp .ge 17, 3) := by decide +kernel
theorem dX10_worstAt_10 : decode cX10_worstAt 10 = .ok (.aload_n 0, 1) := by decide +kernel
theorem dX10_worstAt_11 : decode cX10_worstAt 11 = .ok (.getfield 149, 3) := by decide +kernel
theorem dX10_worstAt_14 : decode cX10_worstAt 14 = .ok (.iload 4, 2) := by decide +kernel
theorem dX10_worstAt_16 : decode cX10_worstAt 16 = .ok (.iconst 0, 1) := by decide +kernel
theorem dX10_worstAt_17 : decode cX10_worstAt 17 = .ok (.iastore, 1) := by decide +kernel
theorem dX10_worstAt_18 : decode cX10_worstAt 18 = .ok (.iinc 4 1, 3) := by decide +kernel
theorem dX10_worstAt_21 : decode cX10_worstAt 21 = .ok (.goto (-18), 3) := by decide +kernel
theorem dX10_worstAt_24 : decode cX10_worstAt 24 = .ok (.iconst 0, 1) := by decide +kernel
theorem dX10_worstAt_25 : decode cX10_worstAt 25 = .ok (.istore 4, 2) := by decide +kernel
theorem dX10_worstAt_27 : decode cX10_worstAt 27 = .ok (.iload 4, 2) := by decide +kernel
theorem dX10_worstAt_29 : decode cX10_worstAt 29 = .ok (.sipush 256, 3) := by decide +kernel
theorem dX10_worstAt_32 : decode cX10_worstAt 32 = .ok (.if_icmp .ge 37, 3) := by decide +kernel
theorem dX10_worstAt_35 : decode cX10_worstAt 35 = .ok (.aload_n 0, 1) := by decide +kernel
theorem dX10_worstAt_36 : decode cX10_worstAt 36 = .ok (.getfield 146, 3) := by decide +kernel
theorem dX10_worstAt_39 : decode cX10_worstAt 39 = .ok (.iload 4, 2) := by decide +kernel
theorem dX10_worstAt_41 : decode cX10_worstAt 41 = .ok (.baload, 1) := by decide +kernel
theorem dX10_worstAt_42 : decode cX10_worstAt 42 = .ok (.ifCond .eq 21, 3) := by decide +kernel
theorem dX10_worstAt_45 : decode cX10_worstAt 45 = .ok (.aload_n 0, 1) := by decide +kernel
theorem dX10_worstAt_46 : decode cX10_worstAt 46 = .ok (.getfield 149, 3) := by decide +kernel
theorem dX10_worstAt_49 : decode cX10_worstAt 49 = .ok (.aload_n 0, 1) := by decide +kernel
theorem dX10_worstAt_50 : decode cX10_worstAt 50 = .ok (.iload 4, 2) := by decide +kernel
theorem dX10_worstAt_52 : decode cX10_worstAt 52 = .ok (.iload_n 2, 1) := by decide +kernel
theorem dX10_worstAt_53 : decode cX10_worstAt 53 = .ok (.iload_n 3, 1) := by decide +kernel
theorem dX10_worstAt_54 : decode cX10_worstAt 54 = .ok (.iload_n 1, 1) := by decide +kernel
theorem dX10_worstAt_55 : decode cX10_worstAt 55 = .ok (.invokevirtual 467, 3) := by decide +kernel
theorem dX10_worstAt_58 : decode cX10_worstAt 58 = .ok (.dup2, 1) := by decide +kernel
theorem dX10_worstAt_59 : decode cX10_worstAt 59 = .ok (.iaload, 1) := by decide +kernel
theorem dX10_worstAt_60 : decode cX10_worstAt 60 = .ok (.iconst 1, 1) := by decide +kernel
theorem dX10_worstAt_61 : decode cX10_worstAt 61 = .ok (.iadd, 1) := by decide +kernel
theorem dX10_worstAt_62 : decode cX10_worstAt 62 = .ok (.iastore, 1) := by decide +kernel
theorem dX10_worstAt_63 : decode cX10_worstAt 63 = .ok (.iinc 4 1, 3) := by decide +kernel
theorem dX10_worstAt_66 : decode cX10_worstAt 66 = .ok (.goto (-39), 3) := by decide +kernel
theorem dX10_worstAt_69 : decode cX10_worstAt 69 = .ok (.iconst 0, 1) := by decide +kernel
theorem dX10_worstAt_70 : decode cX10_worstAt 70 = .ok (.istore 4, 2) := by decide +kernel
theorem dX10_worstAt_72 : decode cX10_worstAt 72 = .ok (.iconst 0, 1) := by decide +kernel
theorem dX10_worstAt_73 : decode cX10_worstAt 73 = .ok (.istore 5, 2) := by decide +kernel
theorem dX10_worstAt_75 : decode cX10_worstAt 75 = .ok (.iload 5, 2) := by decide +kernel
theorem dX10_worstAt_77 : decode cX10_worstAt 77 = .ok (.bipush 10, 2) := by decide +kernel
theorem dX10_worstAt_79 : decode cX10_worstAt 79 = .ok (.if_icmp .ge 30, 3) := by decide +kernel
theorem dX10_worstAt_82 : decode cX10_worstAt 82 = .ok (.aload_n 0, 1) := by decide +kernel
theorem dX10_worstAt_83 : decode cX10_worstAt 83 = .ok (.getfield 149, 3) := by decide +kernel
theorem dX10_worstAt_86 : decode cX10_worstAt 86 = .ok (.iload 5, 2) := by decide +kernel
theorem dX10_worstAt_88 : decode cX10_worstAt 88 = .ok (.iaload, 1) := by decide +kernel
theorem dX10_worstAt_89 : decode cX10_worstAt 89 = .ok (.iload 4, 2) := by decide +kernel
theorem dX10_worstAt_91 : decode cX10_worstAt 91 = .ok (.if_icmp .le 12, 3) := by decide +kernel
theorem dX10_worstAt_94 : decode cX10_worstAt 94 = .ok (.aload_n 0, 1) := by decide +kernel
theorem dX10_worstAt_95 : decode cX10_worstAt 95 = .ok (.getfield 149, 3) := by decide +kernel
theorem dX10_worstAt_98 : decode cX10_worstAt 98 = .ok (.iload 5, 2) := by decide +kernel
theorem dX10_worstAt_100 : decode cX10_worstAt 100 = .ok (.iaload, 1) := by decide +kernel
theorem dX10_worstAt_101 : decode cX10_worstAt 101 = .ok (.istore 4, 2) := by decide +kernel
theorem dX10_worstAt_103 : decode cX10_worstAt 103 = .ok (.iinc 5 1, 3) := by decide +kernel
theorem dX10_worstAt_106 : decode cX10_worstAt 106 = .ok (.goto (-31), 3) := by decide +kernel
theorem dX10_worstAt_109 : decode cX10_worstAt 109 = .ok (.iload 4, 2) := by decide +kernel
theorem dX10_worstAt_111 : decode cX10_worstAt 111 = .ok (.ireturn, 1) := by decide +kernel
theorem dX10_look_0 : decode cX10_look 0 = .ok (.aload_n 0, 1) := by decide +kernel
theorem dX10_look_1 : decode cX10_look 1 = .ok (.iload_n 1, 1) := by decide +kernel
theorem dX10_look_2 : decode cX10_look 2 = .ok (.iload_n 2, 1) := by decide +kernel
theorem dX10_look_3 : decode cX10_look 3 = .ok (.iload_n 3, 1) := by decide +kernel
theorem dX10_look_4 : decode cX10_look 4 = .ok (.invokevirtual 470, 3) := by decide +kernel
theorem dX10_look_7 : decode cX10_look 7 = .ok (.ifCond .ne 5, 3) := by decide +kernel
theorem dX10_look_10 : decode cX10_look 10 = .ok (.iconst (-1), 1) := by decide +kernel
theorem dX10_look_11 : decode cX10_look 11 = .ok (.ireturn, 1) := by decide +kernel
theorem dX10_look_12 : decode cX10_look 12 = .ok (.iconst 0, 1) := by decide +kernel
theorem dX10_look_13 : decode cX10_look 13 = .ok (.istore 4, 2) := by decide +kernel
theorem dX10_look_15 : decode cX10_look 15 = .ok (.iload 4, 2) := by decide +kernel
theorem dX10_look_17 : decode cX10_look 17 = .ok (.sipush 256, 3) := by decide +kernel
theorem dX10_look_20 : decode cX10_look 20 = .ok (.if_icmp .ge 25, 3) := by decide +kernel
theorem dX10_look_23 : decode cX10_look 23 = .ok (.aload_n 0, 1) := by decide +kernel
theorem dX10_look_24 : decode cX10_look 24 = .ok (.getfield 146, 3) := by decide +kernel
theorem dX10_look_27 : decode cX10_look 27 = .ok (.iload 4, 2) := by decide +kernel
theorem dX10_look_29 : decode cX10_look 29 = .ok (.aload_n 0, 1) := by decide +kernel
theorem dX10_look_30 : decode cX10_look 30 = .ok (.iload 4, 2) := by decide +kernel
theorem dX10_look_32 : decode cX10_look 32 = .ok (.iload_n 2, 1) := by decide +kernel
theorem dX10_look_33 : decode cX10_look 33 = .ok (.iload_n 3, 1) := by decide +kernel
theorem dX10_look_34 : decode cX10_look 34 = .ok (.iload_n 1, 1) := by decide +kernel
theorem dX10_look_35 : decode cX10_look 35 = .ok (.invokevirtual 473, 3) := by decide +kernel
theorem dX10_look_38 : decode cX10_look 38 = .ok (.bastore, 1) := by decide +kernel
theorem dX10_look_39 : decode cX10_look 39 = .ok (.iinc 4 1, 3) := by decide +kernel
theorem dX10_look_42 : decode cX10_look 42 = .ok (.goto (-27), 3) := by decide +kernel
theorem dX10_look_45 : decode cX10_look 45 = .ok (.bipush (-2), 2) := by decide +kernel
theorem dX10_look_47 : decode cX10_look 47 = .ok (.istore 4, 2) := by decide +kernel
theorem dX10_look_49 : decode cX10_look 49 = .ok (.iconst 0, 1) := by decide +kernel
theorem dX10_look_50 : decode cX10_look 50 = .ok (.istore 5, 2) := by decide +kernel
theorem dX10_look_52 : decode cX10_look 52 = .ok (.iconst 0, 1) := by decide +kernel
theorem dX10_look_53 : decode cX10_look 53 = .ok (.istore 6, 2) := by decide +kernel
theorem dX10_look_55 : decode cX10_look 55 = .ok (.iload 6, 2) := by decide +kernel
theorem dX10_look_57 : decode cX10_look 57 = .ok (.bipush 48, 2) := by decide +kernel
theorem dX10_look_59 : decode cX10_look 59 = .ok (.if_icmp .ge 66, 3) := by decide +kernel
theorem dX10_look_62 : decode cX10_look 62 = .ok (.aload_n 0, 1) := by decide +kernel
theorem dX10_look_63 : decode cX10_look 63 = .ok (.iload 6, 2) := by decide +kernel
theorem dX10_look_65 : decode cX10_look 65 = .ok (.invokevirtual 366, 3) := by decide +kernel
theorem dX10_look_68 : decode cX10_look 68 = .ok (.ifCond .ne 6, 3) := by decide +kernel
theorem dX10_look_71 : decode cX10_look 71 = .ok (.goto 48, 3) := by decide +kernel
theorem dX10_look_74 : decode cX10_look 74 = .ok (.aload_n 0, 1) := by decide +kernel
theorem dX10_look_75 : decode cX10_look 75 = .ok (.iload 6, 2) := by decide +kernel
theorem dX10_look_77 : decode cX10_look 77 = .ok (.iload_n 2, 1) := by decide +kernel
theorem dX10_look_78 : decode cX10_look 78 = .ok (.iload_n 3, 1) := by decide +kernel
theorem dX10_look_79 : decode cX10_look 79 = .ok (.invokevirtual 477, 3) := by decide +kernel
theorem dX10_look_82 : decode cX10_look 82 = .ok (.istore 7, 2) := by decide +kernel
theorem dX10_look_84 : decode cX10_look 84 = .ok (.iload 4, 2) := by decide +kernel
theorem dX10_look_86 : decode cX10_look 86 = .ok (.ifCond .lt 13, 3) := by decide +kernel
theorem dX10_look_89 : decode cX10_look 89 = .ok (.iload 7, 2) := by decide +kernel
theorem dX10_look_91 : decode cX10_look 91 = .ok (.iload 5, 2) := by decide +kernel
theorem dX10_look_93 : decode cX10_look 93 = .ok (.if_icmp .lt 6, 3) := by decide +kernel
theorem dX10_look_96 : decode cX10_look 96 = .ok (.goto 23, 3) := by decide +kernel
theorem dX10_look_99 : decode cX10_look 99 = .ok (.iload 6, 2) := by decide +kernel
theorem dX10_look_101 : decode cX10_look 101 = .ok (.bipush 8, 2) := by decide +kernel
theorem dX10_look_103 : decode cX10_look 103 = .ok (.idiv, 1) := by decide +kernel
theorem dX10_look_104 : decode cX10_look 104 = .ok (.bipush 10, 2) := by decide +kernel
theorem dX10_look_106 : decode cX10_look 106 = .ok (.imul, 1) := by decide +kernel
theorem dX10_look_107 : decode cX10_look 107 = .ok (.iload 6, 2) := by decide +kernel
theorem dX10_look_109 : decode cX10_look 109 = .ok (.bipush 8, 2) := by decide +kernel
theorem dX10_look_111 : decode cX10_look 111 = .ok (.irem, 1) := by decide +kernel
theorem dX10_look_112 : decode cX10_look 112 = .ok (.iadd, 1) := by decide +kernel
theorem dX10_look_113 : decode cX10_look 113 = .ok (.istore 4, 2) := by decide +kernel
theorem dX10_look_115 : decode cX10_look 115 = .ok (.iload 7, 2) := by decide +kernel
theorem dX10_look_117 : decode cX10_look 117 = .ok (.istore 5, 2) := by decide +kernel
theorem dX10_look_119 : decode cX10_look 119 = .ok (.iinc 6 1, 3) := by decide +kernel
theorem dX10_look_122 : decode cX10_look 122 = .ok (.goto (-67), 3) := by decide +kernel
theorem dX10_look_125 : decode cX10_look 125 = .ok (.iload 4, 2) := by decide +kernel
theorem dX10_look_127 : decode cX10_look 127 = .ok (.ireturn, 1) := by decide +kernel
theorem dX10_hold_0 : decode cX10_hold 0 = .ok (.iload_n 1, 1) := by decide +kernel
theorem dX10_hold_1 : decode cX10_hold 1 = .ok (.iconst 0, 1) := by decide +kernel
theorem dX10_hold_2 : decode cX10_hold 2 = .ok (.iconst 2, 1) := by decide +kernel
theorem dX10_hold_3 : decode cX10_hold 3 = .ok (.invokestatic 323, 3) := by decide +kernel
theorem dX10_hold_6 : decode cX10_hold 6 = .ok (.ifCond .ne 5, 3) := by decide +kernel
theorem dX10_hold_9 : decode cX10_hold 9 = .ok (.iconst 0, 1) := by decide +kernel
theorem dX10_hold_10 : decode cX10_hold 10 = .ok (.ireturn, 1) := by decide +kernel
theorem dX10_hold_11 : decode cX10_hold 11 = .ok (.aload_n 0, 1) := by decide +kernel
theorem dX10_hold_12 : decode cX10_hold 12 = .ok (.getfield 152, 3) := by decide +kernel
theorem dX10_hold_15 : decode cX10_hold 15 = .ok (.iload_n 1, 1) := by decide +kernel
theorem dX10_hold_16 : decode cX10_hold 16 = .ok (.iconst 1, 1) := by decide +kernel
theorem dX10_hold_17 : decode cX10_hold 17 = .ok (.bastore, 1) := by decide +kernel
theorem dX10_hold_18 : decode cX10_hold 18 = .ok (.iconst 0, 1) := by decide +kernel
theorem dX10_hold_19 : decode cX10_hold 19 = .ok (.istore_n 2, 1) := by decide +kernel
theorem dX10_hold_20 : decode cX10_hold 20 = .ok (.iload_n 2, 1) := by decide +kernel
theorem dX10_hold_21 : decode cX10_hold 21 = .ok (.bipush 92, 2) := by decide +kernel
theorem dX10_hold_23 : decode cX10_hold 23 = .ok (.if_icmp .ge 26, 3) := by decide +kernel
theorem dX10_hold_26 : decode cX10_hold 26 = .ok (.aload_n 0, 1) := by decide +kernel
theorem dX10_hold_27 : decode cX10_hold 27 = .ok (.getfield 155, 3) := by decide +kernel
theorem dX10_hold_30 : decode cX10_hold 30 = .ok (.bipush 92, 2) := by decide +kernel
theorem dX10_hold_32 : decode cX10_hold 32 = .ok (.iload_n 1, 1) := by decide +kernel
theorem dX10_hold_33 : decode cX10_hold 33 = .ok (.imul, 1) := by decide +kernel
theorem dX10_hold_34 : decode cX10_hold 34 = .ok (.iload_n 2, 1) := by decide +kernel
theorem dX10_hold_35 : decode cX10_hold 35 = .ok (.iadd, 1) := by decide +kernel
theorem dX10_hold_36 : decode cX10_hold 36 = .ok (.aload_n 0, 1) := by decide +kernel
theorem dX10_hold_37 : decode cX10_hold 37 = .ok (.getfield 116, 3) := by decide +kernel
theorem dX10_hold_40 : decode cX10_hold 40 = .ok (.iload_n 2, 1) := by decide +kernel
theorem dX10_hold_41 : decode cX10_hold 41 = .ok (.iaload, 1) := by decide +kernel
theorem dX10_hold_42 : decode cX10_hold 42 = .ok (.iastore, 1) := by decide +kernel
theorem dX10_hold_43 : decode cX10_hold 43 = .ok (.iinc 2 1, 3) := by decide +kernel
theorem dX10_hold_46 : decode cX10_hold 46 = .ok (.goto (-26), 3) := by decide +kernel
theorem dX10_hold_49 : decode cX10_hold 49 = .ok (.iconst 1, 1) := by decide +kernel
theorem dX10_hold_50 : decode cX10_hold 50 = .ok (.ireturn, 1) := by decide +kernel
theorem dX10_restore_0 : decode cX10_restore 0 = .ok (.iload_n 1, 1) := by decide +kernel
theorem dX10_restore_1 : decode cX10_restore 1 = .ok (.iconst 0, 1) := by decide +kernel
theorem dX10_restore_2 : decode cX10_restore 2 = .ok (.iconst 2, 1) := by decide +kernel
theorem dX10_restore_3 : decode cX10_restore 3 = .ok (.invokestatic 323, 3) := by decide +kernel
theorem dX10_restore_6 : decode cX10_restore 6 = .ok (.ifCond .eq 12, 3) := by decide +kernel
theorem dX10_restore_9 : decode cX10_restore 9 = .ok (.aload_n 0, 1) := by decide +kernel
theorem dX10_restore_10 : decode cX10_restore 10 = .ok (.getfield 152, 3) := by decide +kernel
theorem dX10_restore_13 : decode cX10_restore 13 = .ok (.iload_n 1, 1) := by decide +kernel
theorem dX10_restore_14 : decode cX10_restore 14 = .ok (.baload, 1) := by decide +kernel
theorem dX10_restore_15 : decode cX10_restore 15 = .ok (.ifCond .ne 5, 3) := by decide +kernel
theorem dX10_restore_18 : decode cX10_restore 18 = .ok (.iconst 0, 1) := by decide +kernel
theorem dX10_restore_19 : decode cX10_restore 19 = .ok (.ireturn, 1) := by decide +kernel
theorem dX10_restore_20 : decode cX10_restore 20 = .ok (.iconst 0, 1) := by decide +kernel
theorem dX10_restore_21 : decode cX10_restore 21 = .ok (.istore_n 2, 1) := by decide +kernel
theorem dX10_restore_22 : decode cX10_restore 22 = .ok (.iload_n 2, 1) := by decide +kernel
theorem dX10_restore_23 : decode cX10_restore 23 = .ok (.bipush 92, 2) := by decide +kernel
theorem dX10_restore_25 : decode cX10_restore 25 = .ok (.if_icmp .ge 26, 3) := by decide +kernel
theorem dX10_restore_28 : decode cX10_restore 28 = .ok (.aload_n 0, 1) := by decide +kernel
theorem dX10_restore_29 : decode cX10_restore 29 = .ok (.getfield 116, 3) := by decide +kernel
theorem dX10_restore_32 : decode cX10_restore 32 = .ok (.iload_n 2, 1) := by decide +kernel
theorem dX10_restore_33 : decode cX10_restore 33 = .ok (.aload_n 0, 1) := by decide +kernel
theorem dX10_restore_34 : decode cX10_restore 34 = .ok (.getfield 155, 3) := by decide +kernel
theorem dX10_restore_37 : decode cX10_restore 37 = .ok (.bipush 92, 2) := by decide +kernel
theorem dX10_restore_39 : decode cX10_restore 39 = .ok (.iload_n 1, 1) := by decide +kernel
theorem dX10_restore_40 : decode cX10_restore 40 = .ok (.imul, 1) := by decide +kernel
theorem dX10_restore_41 : decode cX10_restore 41 = .ok (.iload_n 2, 1) := by decide +kernel
theorem dX10_restore_42 : decode cX10_restore 42 = .ok (.iadd, 1) := by decide +kernel
theorem dX10_restore_43 : decode cX10_restore 43 = .ok (.iaload, 1) := by decide +kernel
theorem dX10_restore_44 : decode cX10_restore 44 = .ok (.iastore, 1) := by decide +kernel
theorem dX10_restore_45 : decode cX10_restore 45 = .ok (.iinc 2 1, 3) := by decide +kernel
theorem dX10_restore_48 : decode cX10_restore 48 = .ok (.goto (-26), 3) := by decide +kernel
theorem dX10_restore_51 : decode cX10_restore 51 = .ok (.aload_n 0, 1) := by decide +kernel
theorem dX10_restore_52 : decode cX10_restore 52 = .ok (.iconst 0, 1) := by decide +kernel
theorem dX10_restore_53 : decode cX10_restore 53 = .ok (.putfield 265, 3) := by decide +kernel
theorem dX10_restore_56 : decode cX10_restore 56 = .ok (.iconst 1, 1) := by decide +kernel
theorem dX10_restore_57 : decode cX10_restore 57 = .ok (.ireturn, 1) := by decide +kernel
theorem dX10_sumNow_0 : decode cX10_sumNow 0 = .ok (.iconst 0, 1) := by decide +kernel
theorem dX10_sumNow_1 : decode cX10_sumNow 1 = .ok (.istore_n 3, 1) := by decide +kernel
theorem dX10_sumNow_2 : decode cX10_sumNow 2 = .ok (.iload_n 1, 1) := by decide +kernel
theorem dX10_sumNow_3 : decode cX10_sumNow 3 = .ok (.istore 4, 2) := by decide +kernel
theorem dX10_sumNow_5 : decode cX10_sumNow 5 = .ok (.iload 4, 2) := by decide +kernel
theorem dX10_sumNow_7 : decode cX10_sumNow 7 = .ok (.iload_n 1, 1) := by decide +kernel
theorem dX10_sumNow_8 : decode cX10_sumNow 8 = .ok (.iload_n 2, 1) := by decide +kernel
theorem dX10_sumNow_9 : decode cX10_sumNow 9 = .ok (.iadd, 1) := by decide +kernel
theorem dX10_sumNow_10 : decode cX10_sumNow 10 = .ok (.if_icmp .ge 19, 3) := by decide +kernel
theorem dX10_sumNow_13 : decode cX10_sumNow 13 = .ok (.iload_n 3, 1) := by decide +kernel
theorem dX10_sumNow_14 : decode cX10_sumNow 14 = .ok (.aload_n 0, 1) := by decide +kernel
theorem dX10_sumNow_15 : decode cX10_sumNow 15 = .ok (.getfield 116, 3) := by decide +kernel
theorem dX10_sumNow_18 : decode cX10_sumNow 18 = .ok (.iload 4, 2) := by decide +kernel
theorem dX10_sumNow_20 : decode cX10_sumNow 20 = .ok (.iaload, 1) := by decide +kernel
theorem dX10_sumNow_21 : decode cX10_sumNow 21 = .ok (.iadd, 1) := by decide +kernel
theorem dX10_sumNow_22 : decode cX10_sumNow 22 = .ok (.istore_n 3, 1) := by decide +kernel
theorem dX10_sumNow_23 : decode cX10_sumNow 23 = .ok (.iinc 4 1, 3) := by decide +kernel
theorem dX10_sumNow_26 : decode cX10_sumNow 26 = .ok (.goto (-21), 3) := by decide +kernel
theorem dX10_sumNow_29 : decode cX10_sumNow 29 = .ok (.iload_n 3, 1) := by decide +kernel
theorem dX10_sumNow_30 : decode cX10_sumNow 30 = .ok (.ireturn, 1) := by decide +kernel
theorem dX10_count_0 : decode cX10_count 0 = .ok (.iload_n 1, 1) := by decide +kernel
theorem dX10_count_1 : decode cX10_count 1 = .ok (.tableswitch 221 0 13 #[71, 81, 91, 101, 111, 119, 127, 135, 143, 148, 153, 158, 203, 212], 71) := by decide +kernel
theorem dX10_count_72 : decode cX10_count 72 = .ok (.aload_n 0, 1) := by decide +kernel
theorem dX10_count_73 : decode cX10_count 73 = .ok (.getfield 46, 3) := by decide +kernel
theorem dX10_count_76 : decode cX10_count 76 = .ok (.aload_n 0, 1) := by decide +kernel
theorem dX10_count_77 : decode cX10_count 77 = .ok (.getfield 239, 3) := by decide +kernel
theorem dX10_count_80 : decode cX10_count 80 = .ok (.iaload, 1) := by decide +kernel
theorem dX10_count_81 : decode cX10_count 81 = .ok (.ireturn, 1) := by decide +kernel
theorem dX10_count_82 : decode cX10_count 82 = .ok (.aload_n 0, 1) := by decide +kernel
theorem dX10_count_83 : decode cX10_count 83 = .ok (.getfield 43, 3) := by decide +kernel
theorem dX10_count_86 : decode cX10_count 86 = .ok (.aload_n 0, 1) := by decide +kernel
theorem dX10_count_87 : decode cX10_count 87 = .ok (.getfield 239, 3) := by decide +kernel
theorem dX10_count_90 : decode cX10_count 90 = .ok (.iaload, 1) := by decide +kernel
theorem dX10_count_91 : decode cX10_count 91 = .ok (.ireturn, 1) := by decide +kernel
theorem dX10_count_92 : decode cX10_count 92 = .ok (.aload_n 0, 1) := by decide +kernel
theorem dX10_count_93 : decode cX10_count 93 = .ok (.getfield 52, 3) := by decide +kernel
theorem dX10_count_96 : decode cX10_count 96 = .ok (.aload_n 0, 1) := by decide +kernel
theorem dX10_count_97 : decode cX10_count 97 = .ok (.getfield 239, 3) := by decide +kernel
theorem dX10_count_100 : decode cX10_count 100 = .ok (.iaload, 1) := by decide +kernel
theorem dX10_count_101 : decode cX10_count 101 = .ok (.ireturn, 1) := by decide +kernel
theorem dX10_count_102 : decode cX10_count 102 = .ok (.aload_n 0, 1) := by decide +kernel
theorem dX10_count_103 : decode cX10_count 103 = .ok (.getfield 61, 3) := by decide +kernel
theorem dX10_count_106 : decode cX10_count 106 = .ok (.aload_n 0, 1) := by decide +kernel
theorem dX10_count_107 : decode cX10_count 107 = .ok (.getfield 239, 3) := by decide +kernel
theorem dX10_count_110 : decode cX10_count 110 = .ok (.iaload, 1) := by decide +kernel
theorem dX10_count_111 : decode cX10_count 111 = .ok (.ireturn, 1) := by decide +kernel
theorem dX10_count_112 : decode cX10_count 112 = .ok (.aload_n 0, 1) := by decide +kernel
theorem dX10_count_113 : decode cX10_count 113 = .ok (.getfield 116, 3) := by decide +kernel
theorem dX10_count_116 : decode cX10_count 116 = .ok (.bipush 89, 2) := by decide +kernel
theorem dX10_count_118 : decode cX10_count 118 = .ok (.iaload, 1) := by decide +kernel
theorem dX10_count_119 : decode cX10_count 119 = .ok (.ireturn, 1) := by decide +kernel
theorem dX10_count_120 : decode cX10_count 120 = .ok (.aload_n 0, 1) := by decide +kernel
theorem dX10_count_121 : decode cX10_count 121 = .ok (.getfield 116, 3) := by decide +kernel
theorem dX10_count_124 : decode cX10_count 124 = .ok (.bipush 88, 2) := by decide +kernel
theorem dX10_count_126 : decode cX10_count 126 = .ok (.iaload, 1) := by decide +kernel
theorem dX10_count_127 : decode cX10_count 127 = .ok (.ireturn, 1) := by decide +kernel
theorem dX10_count_128 : decode cX10_count 128 = .ok (.aload_n 0, 1) := by decide +kernel
theorem dX10_count_129 : decode cX10_count 129 = .ok (.iconst 0, 1) := by decide +kernel
theorem dX10_count_130 : decode cX10_count 130 = .ok (.bipush 48, 2) := by decide +kernel
theorem dX10_count_132 : decode cX10_count 132 = .ok (.invokevirtual 480, 3) := by decide +kernel
theorem dX10_count_135 : decode cX10_count 135 = .ok (.ireturn, 1) := by decide +kernel
theorem dX10_count_136 : decode cX10_count 136 = .ok (.aload_n 0, 1) := by decide +kernel
theorem dX10_count_137 : decode cX10_count 137 = .ok (.getfield 116, 3) := by decide +kernel
theorem dX10_count_140 : decode cX10_count 140 = .ok (.bipush 90, 2) := by decide +kernel
theorem dX10_count_142 : decode cX10_count 142 = .ok (.iaload, 1) := by decide +kernel
theorem dX10_count_143 : decode cX10_count 143 = .ok (.ireturn, 1) := by decide +kernel
theorem dX10_count_144 : decode cX10_count 144 = .ok (.aload_n 0, 1) := by decide +kernel
theorem dX10_count_145 : decode cX10_count 145 = .ok (.getfield 172, 3) := by decide +kernel
theorem dX10_count_148 : decode cX10_count 148 = .ok (.ireturn, 1) := by decide +kernel
theorem dX10_count_149 : decode cX10_count 149 = .ok (.aload_n 0, 1) := by decide +kernel
theorem dX10_count_150 : decode cX10_count 150 = .ok (.getfield 265, 3) := by decide +kernel
theorem dX10_count_153 : decode cX10_count 153 = .ok (.ireturn, 1) := by decide +kernel
theorem dX10_count_154 : decode cX10_count 154 = .ok (.aload_n 0, 1) := by decide +kernel
theorem dX10_count_155 : decode cX10_count 155 = .ok (.getfield 268, 3) := by decide +kernel
theorem dX10_count_158 : decode cX10_count 158 = .ok (.ireturn, 1) := by decide +kernel
theorem dX10_count_159 : decode cX10_count 159 = .ok (.aload_n 0, 1) := by decide +kernel
theorem dX10_count_160 : decode cX10_count 160 = .ok (.getfield 152, 3) := by decide +kernel
theorem dX10_count_163 : decode cX10_count 163 = .ok (.iconst 0, 1) := by decide +kernel
theorem dX10_count_164 : decode cX10_count 164 = .ok (.baload, 1) := by decide +kernel
theorem dX10_count_165 : decode cX10_count 165 = .ok (.ifCond .eq 7, 3) := by decide +kernel
theorem dX10_count_168 : decode cX10_count 168 = .ok (.iconst 1, 1) := by decide +kernel
theorem dX10_count_169 : decode cX10_count 169 = .ok (.goto 4, 3) := by decide +kernel
theorem dX10_count_172 : decode cX10_count 172 = .ok (.iconst 0, 1) := by decide +kernel
theorem dX10_count_173 : decode cX10_count 173 = .ok (.aload_n 0, 1) := by decide +kernel
theorem dX10_count_174 : decode cX10_count 174 = .ok (.getfield 152, 3) := by decide +kernel
theorem dX10_count_177 : decode cX10_count 177 = .ok (.iconst 1, 1) := by decide +kernel
theorem dX10_count_178 : decode cX10_count 178 = .ok (.baload, 1) := by decide +kernel
theorem dX10_count_179 : decode cX10_count 179 = .ok (.ifCond .eq 7, 3) := by decide +kernel
theorem dX10_count_182 : decode cX10_count 182 = .ok (.iconst 1, 1) := by decide +kernel
theorem dX10_count_183 : decode cX10_count 183 = .ok (.goto 4, 3) := by decide +kernel
theorem dX10_count_186 : decode cX10_count 186 = .ok (.iconst 0, 1) := by decide +kernel
theorem dX10_count_187 : decode cX10_count 187 = .ok (.iadd, 1) := by decide +kernel
theorem dX10_count_188 : decode cX10_count 188 = .ok (.aload_n 0, 1) := by decide +kernel
theorem dX10_count_189 : decode cX10_count 189 = .ok (.getfield 152, 3) := by decide +kernel
theorem dX10_count_192 : decode cX10_count 192 = .ok (.iconst 2, 1) := by decide +kernel
theorem dX10_count_193 : decode cX10_count 193 = .ok (.baload, 1) := by decide +kernel
theorem dX10_count_194 : decode cX10_count 194 = .ok (.ifCond .eq 7, 3) := by decide +kernel
theorem dX10_count_197 : decode cX10_count 197 = .ok (.iconst 1, 1) := by decide +kernel
theorem dX10_count_198 : decode cX10_count 198 = .ok (.goto 4, 3) := by decide +kernel
theorem dX10_count_201 : decode cX10_count 201 = .ok (.iconst 0, 1) := by decide +kernel
theorem dX10_count_202 : decode cX10_count 202 = .ok (.iadd, 1) := by decide +kernel
theorem dX10_count_203 : decode cX10_count 203 = .ok (.ireturn, 1) := by decide +kernel
theorem dX10_count_204 : decode cX10_count 204 = .ok (.aload_n 0, 1) := by decide +kernel
theorem dX10_count_205 : decode cX10_count 205 = .ok (.bipush 76, 2) := by decide +kernel
theorem dX10_count_207 : decode cX10_count 207 = .ok (.bipush 6, 2) := by decide +kernel
theorem dX10_count_209 : decode cX10_count 209 = .ok (.invokevirtual 480, 3) := by decide +kernel
theorem dX10_count_212 : decode cX10_count 212 = .ok (.ireturn, 1) := by decide +kernel
theorem dX10_count_213 : decode cX10_count 213 = .ok (.aload_n 0, 1) := by decide +kernel
theorem dX10_count_214 : decode cX10_count 214 = .ok (.bipush 82, 2) := by decide +kernel
theorem dX10_count_216 : decode cX10_count 216 = .ok (.bipush 6, 2) := by decide +kernel
theorem dX10_count_218 : decode cX10_count 218 = .ok (.invokevirtual 480, 3) := by decide +kernel
theorem dX10_count_221 : decode cX10_count 221 = .ok (.ireturn, 1) := by decide +kernel
theorem dX10_count_222 : decode cX10_count 222 = .ok (.iconst (-1), 1) := by decide +kernel
theorem dX10_count_223 : decode cX10_count 223 = .ok (.ireturn, 1) := by decide +kernel
